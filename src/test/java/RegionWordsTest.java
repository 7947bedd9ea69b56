/** Words used: the map, continuing and regions. */
public final class RegionWordsTest {
    private static final int[] BACKINGS = {
        0, 1024, 1025, 1026, 2046, 2047, 2048, 2049, 3071, 3072, 7167, 7168, 8190, 8191,
    };

    public static void main(String[] args) {
        Check check = new Check("Words used");
        pagesOfTheMap(check);
        freeOrMapped(check);
        protections(check);
        protectionZero(check);
        backings(check);
        objectOfABacking(check);
        onlyTheMapChanges(check);
        continuing(check);
        anonymousPages(check);
        pagesOfAnObject(check);
        nextObject(check);
        longestRun(check);
        firstPageOfARegion(check);
        asTheMapIsNow(check);
        numberedByFirstPage(check);
        neverMoreThanAllowed(check);
        check.end();
    }

    private static void pagesOfTheMap(Check check) {
        check.sentence("There are P pages, numbered 0 .. P-1.");
        for (int pages : new int[] {16, 17, 255, 256}) {
            Space space = new Space(check, pages, 2);
            space.mapNew(-1, 1, 0, 0).gives(RegionMap.BAD);
            space.mapNew(pages, 1, 0, 0).gives(RegionMap.BAD);
            space.mapNew(0, 1, 0, 0).gives(0);
            space.mapNew(pages - 1, 1, 0, 0).gives(0);
            space.is("0+1:0:0 " + (pages - 1) + "+1:0:0");
            space.longestGap().gives(pages - 2);
        }
    }

    private static void freeOrMapped(Check check) {
        check.sentence("At every moment each page is either FREE or MAPPED.");
        Space space = new Space(check, 16, 8);
        oneOrTheOther(check, space, 0);
        space.mapNew(2, 6, 0, 0).gives(0);
        oneOrTheOther(check, space, 6);
        space.mapOver(6, 4, 7, 1024).gives(2);
        oneOrTheOther(check, space, 8);
        space.mapLow(0, 2, 0, 8190).gives(0);
        oneOrTheOther(check, space, 10);
        space.mapHigh(16, 3, 3, 0).gives(13);
        oneOrTheOther(check, space, 13);
        space.unmap(4, 3).gives(3);
        oneOrTheOther(check, space, 10);
        space.protect(0, 3, 0).gives(0);
        oneOrTheOther(check, space, 10);
        space.move(0, 4, 2).gives(0);
        oneOrTheOther(check, space, 10);
        space.moveFree(2, 2, 0).gives(0);
        oneOrTheOther(check, space, 10);
        space.moveFree(2, 2, 0).gives(RegionMap.HOLE);
        oneOrTheOther(check, space, 10);
    }

    private static void oneOrTheOther(Check check, Space space, int want) {
        int mapped = 0;
        for (int page = 0; page < 16; page++) {
            boolean free = space.protOf(page).got() == RegionMap.FREE;
            boolean freeBacking = space.backingOf(page).got() == RegionMap.FREE;
            check.due("page " + page + " free for both, " + free, String.valueOf(freeBacking), String.valueOf(free));
            mapped += free ? 0 : 1;
        }
        check.due("the number of mapped pages", mapped, want);
    }

    private static void protections(Check check) {
        check.sentence("protection: an int 0 .. 7.");
        for (int prot = 0; prot <= 7; prot++) {
            Space space = new Space(check, 16, 8);
            space.mapNew(0, 1, prot, 0).gives(0);
            space.mapOver(2, 1, prot, 0).gives(0);
            space.mapLow(4, 1, prot, 0).gives(4);
            space.mapHigh(7, 1, prot, 0).gives(6);
            space.mapNew(8, 1, 7 - prot, 0).gives(0);
            space.protect(8, 1, prot).gives(1);
            space.mapNew(10, 1, prot, 0).gives(0);
            space.move(10, 1, 11).gives(0);
            space.moveFree(11, 1, 10).gives(10);
            for (int page = 0; page <= 10; page += 2) {
                space.protOf(page).gives(prot);
            }
        }
    }

    private static void protectionZero(Check check) {
        check.sentence("0 is an ordinary value: a page of protection 0 is mapped, not free.");
        Space space = new Space(check, 16, 3, "4+2:0:0 8+2:0:1024");
        space.protOf(4).gives(0);
        space.protOf(8).gives(0);
        space.mapNew(5, 1, 0, 0).gives(RegionMap.TAKEN);
        space.mapNew(7, 2, 3, 0).gives(RegionMap.TAKEN);
        space.protect(4, 2, 0).gives(0);
        space.move(4, 2, 4).gives(0);
        space.findLow(4, 1).gives(6);
        space.findHigh(10, 1).gives(7);
        space.longestGap().gives(6);
        space.regionCount().gives(2);
        space.mapOver(4, 1, 0, 0).gives(1);
        space.unmap(0, 16).gives(4);
    }

    private static void backings(Check check) {
        check.sentence("backing: 0 (the page is anonymous), or object * 1024 + offset with object 1 .. 7 and"
            + " offset 0 .. 1023, so 1024 .. 8191.");
        for (int object = 1; object <= 7; object++) {
            for (int offset : new int[] {0, 1, 1022, 1023}) {
                Space space = new Space(check, 16, 2, "3+1:5:" + (1024 * object + offset));
                space.backingOf(3).gives(1024 * object + offset);
            }
        }
        new Space(check, 16, 2, "3+1:5:0").backingOf(3).gives(0);
        Space space = new Space(check, 16, 2);
        space.mapNew(3, 1, 5, 1023).gives(RegionMap.BAD);
        space.mapNew(3, 1, 5, 8192).gives(RegionMap.BAD);
    }

    private static void objectOfABacking(Check check) {
        check.sentence("The object of a backing b >= 1024 is b / 1024 (integer division).");
        for (int object = 1; object <= 7; object++) {
            int first = 1024 * object;
            regionsOf(check, 1, 3, first, 3, first + 1);
            regionsOf(check, 1, 3, first + 511, 3, first + 512);
            regionsOf(check, 1, 3, first + 1022, 3, first + 1023);
            if (object > 1) {
                regionsOf(check, 2, 3, first - 1, 3, first);
            }
        }
    }

    /** How many regions two pages side by side make, at the beginning, in the middle and at the end. */
    private static void regionsOf(Check check, int want, int prot, int backing, int nextProt, int nextBacking) {
        for (int page : new int[] {0, 7, 14}) {
            Space space = new Space(check, 16, 2);
            space.mapNew(page, 1, prot, backing).gives(0);
            space.mapNew(page + 1, 1, nextProt, nextBacking).gives(0);
            space.regionCount().gives(want);
            space.regionLength(0).gives(3 - want);
        }
    }

    private static void onlyTheMapChanges(Check check) {
        check.sentence("The map (which pages are free, and the attributes of the mapped ones) is all that changes"
            + " in an object of this class.");
        String runs = "2+4:3:1030 8+2:0:0";
        Space direct = new Space(check, 16, 3, runs);
        Space roundabout = new Space(check, 16, 3, "0+16:7:8176");
        roundabout.unmap(5, 1).gives(1);
        roundabout.protect(0, 5, 2).gives(5);
        roundabout.mapNew(5, 1, 1, 0).gives(0);
        roundabout.mapOver(0, 16, 3, 1024).gives(16);
        roundabout.unmap(0, 6).gives(6);
        roundabout.unmap(10, 6).gives(6);
        roundabout.moveFree(6, 4, 0).gives(0);
        roundabout.move(0, 4, 2).gives(0);
        roundabout.mapHigh(16, 2, 0, 0).gives(14);
        roundabout.moveFree(14, 2, 8).gives(8);
        roundabout.is(runs);
        for (Space space : new Space[] {direct, roundabout}) {
            space.longestGap().gives(6);
            space.regionCount().gives(2);
            space.findLow(0, 3).gives(10);
            space.findHigh(16, 2).gives(14);
            space.mapLow(0, 2, 1, 0).gives(0);
            space.mapHigh(8, 1, 1, 0).gives(RegionMap.FULL);
            space.mapHigh(8, 2, 0, 0).gives(6);
            space.move(1, 2, 15).gives(RegionMap.BAD);
            space.move(0, 4, 10).gives(RegionMap.FULL);
            space.move(0, 2, 10).gives(0);
            space.is("2+4:3:1030 6+4:0:0 10+2:1:0");
        }
    }

    private static void continuing(Check check) {
        check.sentence("Page p (p >= 1) CONTINUES page p-1 if and only if both are mapped, both have the same"
            + " protection, and one of these holds:");
        for (int before : BACKINGS) {
            for (int here : BACKINGS) {
                boolean goesOn = before == 0 ? here == 0 : here == before + 1 && here / 1024 == before / 1024;
                regionsOf(check, goesOn ? 1 : 2, 0, before, 0, here);
                regionsOf(check, goesOn ? 1 : 2, 7, before, 7, here);
                regionsOf(check, 2, 0, before, 1, here);
                regionsOf(check, 2, 7, before, 6, here);
            }
        }
        // A free page between: neither continues it, nor the other across it.
        new Space(check, 16, 2, "3+1:0:0 5+1:0:0").regionCount().gives(2);
        new Space(check, 16, 2, "3+1:0:1024 5+1:0:1026").regionCount().gives(2);
        new Space(check, 16, 2, "3+1:0:1024 5+1:0:1025").regionCount().gives(2);
        // Page 0 has no page before it, so it does not continue the last page.
        new Space(check, 16, 2, "0+1:0:0 15+1:0:0").regionCount().gives(2);
        new Space(check, 256, 2, "0+1:0:0 255+1:0:0").regionCount().gives(2);
    }

    private static void anonymousPages(Check check) {
        check.sentence("both have backing 0;");
        regionsOf(check, 1, 3, 0, 3, 0);
        regionsOf(check, 2, 3, 0, 3, 1024);
        regionsOf(check, 2, 3, 1024, 3, 0);
        regionsOf(check, 2, 3, 0, 2, 0);
        new Space(check, 256, 2, "0+256:3:0").regionCount().gives(1);
    }

    private static void pagesOfAnObject(Check check) {
        check.sentence("both have a backing >= 1024, of the same object, and the backing of p is the backing of"
            + " p-1 plus 1.");
        regionsOf(check, 1, 3, 1024, 3, 1025);
        regionsOf(check, 2, 3, 1025, 3, 1024);
        regionsOf(check, 2, 3, 1024, 3, 1024);
        regionsOf(check, 2, 3, 1024, 3, 1026);
        regionsOf(check, 2, 3, 1024, 3, 2049);
        regionsOf(check, 2, 3, 1024, 2, 1025);
        new Space(check, 256, 2, "0+256:3:1024").regionCount().gives(1);
    }

    private static void nextObject(Check check) {
        check.sentence("So backing 2047 followed by 2048 does not continue: the objects differ.");
        regionsOf(check, 2, 3, 2047, 3, 2048);
        regionsOf(check, 1, 3, 2046, 3, 2047);
        regionsOf(check, 1, 3, 2048, 3, 2049);
        Space space = new Space(check, 32, 2, "0+16:3:2032 16+16:3:2048");
        space.regionCount().gives(2);
        space.regionStart(1).gives(16);
        space.regionLength(0).gives(16);
        space.regionLength(1).gives(16);
    }

    private static void longestRun(Check check) {
        check.sentence("A region is a longest run of consecutive mapped pages in which every page but the first"
            + " continues the page before it.");
        for (int start = 0; start < 16; start++) {
            for (int len = 1; start + len <= 16; len++) {
                for (int backing : new int[] {0, 1024, 2048 - len}) {
                    Space space = new Space(check, 16, 2, start + "+" + len + ":3:" + backing);
                    space.regionCount().gives(1);
                    space.regionStart(0).gives(start);
                    space.regionLength(0).gives(len);
                }
            }
        }
        // Between other pages of the space that do not continue, or are not continued.
        Space between = new Space(check, 16, 8, "0+5:3:1030 5+6:3:1036 11+5:3:1041");
        between.regionStart(1).gives(5);
        between.regionLength(1).gives(6);
        between.mapOver(5, 6, 3, 1035).gives(6);
        between.regionCount().gives(1);
        between.regionLength(0).gives(16);
    }

    private static void firstPageOfARegion(Check check) {
        check.sentence("That is, page p is the first page of a region if and only if p is mapped and (p is 0 or"
            + " p does not continue p-1).");
        Space space = new Space(check, 16, 16,
            "0+2:1:0 2+1:2:0 4+2:2:0 6+1:2:1024 7+3:2:1026 10+1:2:1028 13+1:2:1029 15+1:0:8191");
        int[] firsts = {0, 2, 4, 6, 7, 10, 13, 15};
        space.regionCount().gives(firsts.length);
        for (int k = 0; k < firsts.length; k++) {
            space.regionStart(k).gives(firsts[k]);
        }
        new Space(check, 16, 2, "0+16:0:0").regionStart(0).gives(0);
        new Space(check, 16, 2, "15+1:0:0").regionStart(0).gives(15);
    }

    private static void asTheMapIsNow(Check check) {
        check.sentence("Regions are always taken from the map as it is now; which calls made it plays no part.");
        Space pieces = new Space(check, 16, 4);
        pieces.mapNew(6, 2, 3, 1030).gives(0);
        pieces.mapNew(2, 2, 3, 1026).gives(0);
        pieces.mapNew(4, 2, 3, 1028).gives(0);
        oneRegion(pieces);
        Space cut = new Space(check, 16, 4, "0+16:3:1024");
        cut.unmap(8, 8).gives(8);
        cut.unmap(0, 2).gives(2);
        oneRegion(cut);
        Space replaced = new Space(check, 16, 4, "2+6:3:0");
        replaced.mapOver(4, 4, 3, 1028).gives(4);
        replaced.mapOver(2, 2, 3, 1026).gives(2);
        oneRegion(replaced);
        Space protectedPieces = new Space(check, 16, 4, "2+2:1:1026 4+2:2:1028 6+2:4:1030");
        protectedPieces.protect(2, 6, 3).gives(6);
        oneRegion(protectedPieces);
        Space moved = new Space(check, 16, 4, "2+2:3:1026 6+2:3:1030 12+2:3:1028");
        moved.move(12, 2, 4).gives(0);
        oneRegion(moved);
        Space movedFree = new Space(check, 16, 4, "2+2:3:1026 6+2:3:1030 12+2:3:1028");
        movedFree.moveFree(12, 2, 1).gives(4);
        oneRegion(movedFree);
        Space found = new Space(check, 16, 4, "6+2:3:1030");
        found.mapHigh(6, 2, 3, 1028).gives(4);
        found.mapLow(2, 2, 3, 1026).gives(2);
        oneRegion(found);
    }

    private static void oneRegion(Space space) {
        space.is("2+6:3:1026");
        space.regionCount().gives(1);
        space.regionStart(0).gives(2);
        space.regionLength(0).gives(6);
        space.regionStart(1).gives(RegionMap.BAD);
    }

    private static void numberedByFirstPage(Check check) {
        check.sentence("They are numbered 0, 1, 2, .. by ascending first page.");
        Space space = new Space(check, 64, 32);
        for (int k = 31; k >= 0; k--) {
            space.mapNew(2 * k, 1, 0, 0).gives(0);
            space.regionStart(0).gives(2 * k);
        }
        for (int k = 0; k < 32; k++) {
            space.regionStart(k).gives(2 * k);
        }
        space.unmap(0, 1).gives(1);
        space.regionStart(0).gives(2);
        space.regionStart(30).gives(62);
        space.mapNew(63, 1, 1, 0).gives(0);
        space.regionStart(31).gives(63);
    }

    private static void neverMoreThanAllowed(Check check) {
        check.sentence("There are never more than R regions.");
        for (int regions : new int[] {2, 3, 16, 31, 32}) {
            Space space = new Space(check, 128, regions);
            for (int k = 0; k < regions; k++) {
                space.mapNew(4 * k, 3, 3, 0).gives(0);
            }
            // At the end of the space, and cutting the first region, each would add one or two.
            space.mapNew(127, 1, 3, 1024).gives(RegionMap.FULL);
            space.mapOver(127, 1, 2, 0).gives(RegionMap.FULL);
            space.mapOver(1, 1, 2, 0).gives(RegionMap.FULL);
            space.mapLow(127, 1, 2, 0).gives(RegionMap.FULL);
            space.mapHigh(128, 1, 2, 1024).gives(RegionMap.FULL);
            space.unmap(1, 1).gives(RegionMap.FULL);
            space.protect(1, 1, 2).gives(RegionMap.FULL);
            space.protect(0, 1, 2).gives(RegionMap.FULL);
            space.move(1, 1, 127).gives(RegionMap.FULL);
            space.moveFree(1, 1, 127).gives(RegionMap.FULL);
            space.regionCount().gives(regions);
        }
    }
}
