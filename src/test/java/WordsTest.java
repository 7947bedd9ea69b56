/** Words used: the map, continuing, regions, ranges, mapping attributes and filling. */
public final class WordsTest {
    private interface RangeCall {
        Space.Answer on(Space space, int start, int len);
    }

    private interface FillingCall {
        Space.Answer on(Space space, int len, int prot, int backing);
    }

    /** Every call that takes a range, in each place where it takes one. */
    private static final RangeCall[] RANGE_CALLS = {
        (space, start, len) -> space.mapNew(start, len, 0, 0),
        (space, start, len) -> space.mapOver(start, len, 0, 0),
        Space::unmap,
        (space, start, len) -> space.protect(start, len, 0),
        (space, start, len) -> space.move(start, len, 0),
        (space, start, len) -> space.move(0, len, start),
        (space, start, len) -> space.moveFree(start, len, 0),
    };

    /** Every call that fills, each at the first pages of an empty space of 16. */
    private static final FillingCall[] FILLING_CALLS = {
        (space, len, prot, backing) -> space.mapNew(0, len, prot, backing),
        (space, len, prot, backing) -> space.mapOver(0, len, prot, backing),
        (space, len, prot, backing) -> space.mapLow(0, len, prot, backing),
        (space, len, prot, backing) -> space.mapHigh(Math.max(1, Math.min(16, len)), len, prot, backing),
    };

    private static final int[] BACKINGS = {
        0, 1024, 1025, 1026, 2046, 2047, 2048, 2049, 3071, 3072, 7167, 7168, 8190, 8191,
    };

    public static void main(String[] args) {
        Check check = new Check("Words used");
        pagesOfTheMap(check);
        protectionZero(check);
        backings(check);
        objectOfABacking(check);
        continuing(check);
        anonymousPages(check);
        pagesOfAnObject(check);
        nextObject(check);
        firstPageOfARegion(check);
        asTheMapIsNow(check);
        numberedByFirstPage(check);
        neverMoreThanAllowed(check);
        properRanges(check);
        hugeRanges(check);
        properProtections(check);
        properBackings(check);
        longestFill(check);
        neverProperBackings(check);
        filling(check);
        whatWasThereIsLost(check);
        otherPagesStay(check);
        check.end();
    }

    private static void pagesOfTheMap(Check check) {
        check.sentence("There are P pages, numbered 0 .. P-1.");
        for (int pages : new int[] {16, 17, 255, 256}) {
            Space space = new Space(check, pages, 2);
            space.mapNew(-1, 1, 0, 0).gives(RegionMap.BAD);
            space.mapNew(pages, 1, 0, 0).gives(RegionMap.BAD);
            space.mapNew(0, 1, 0, 0).gives(0);
            space.mapNew(pages - 1, 1, 0, 0).gives(0);
            space.is("0+1:0:0 " + (pages - 1) + "+1:0:0");
            space.longestGap().gives(pages - 2);
        }
    }

    private static void protectionZero(Check check) {
        check.sentence("0 is an ordinary value: a page of protection 0 is mapped, not free.");
        Space space = new Space(check, 16, 3, "4+2:0:0 8+2:0:1024");
        space.protOf(4).gives(0);
        space.protOf(8).gives(0);
        space.mapNew(5, 1, 0, 0).gives(RegionMap.TAKEN);
        space.mapNew(7, 2, 3, 0).gives(RegionMap.TAKEN);
        space.protect(4, 2, 0).gives(0);
        space.move(4, 2, 4).gives(0);
        space.findLow(4, 1).gives(6);
        space.findHigh(10, 1).gives(7);
        space.longestGap().gives(6);
        space.regionCount().gives(2);
        space.mapOver(4, 1, 0, 0).gives(1);
        space.unmap(0, 16).gives(4);
    }

    private static void backings(Check check) {
        check.sentence("backing: 0 (the page is anonymous), or object * 1024 + offset with object 1 .. 7 and"
            + " offset 0 .. 1023, so 1024 .. 8191.");
        for (int object = 1; object <= 7; object++) {
            for (int offset : new int[] {0, 1, 1022, 1023}) {
                Space space = new Space(check, 16, 2, "3+1:5:" + (1024 * object + offset));
                space.backingOf(3).gives(1024 * object + offset);
            }
        }
        new Space(check, 16, 2, "3+1:5:0").backingOf(3).gives(0);
        Space space = new Space(check, 16, 2);
        space.mapNew(3, 1, 5, 1023).gives(RegionMap.BAD);
        space.mapNew(3, 1, 5, 8192).gives(RegionMap.BAD);
    }

    private static void objectOfABacking(Check check) {
        check.sentence("The object of a backing b >= 1024 is b / 1024 (integer division).");
        for (int object = 1; object <= 7; object++) {
            int first = 1024 * object;
            regionsOf(check, 1, 3, first, 3, first + 1);
            regionsOf(check, 1, 3, first + 511, 3, first + 512);
            regionsOf(check, 1, 3, first + 1022, 3, first + 1023);
            if (object > 1) {
                regionsOf(check, 2, 3, first - 1, 3, first);
            }
        }
    }

    /** How many regions two pages side by side make, at the beginning, in the middle and at the end. */
    private static void regionsOf(Check check, int want, int prot, int backing, int nextProt, int nextBacking) {
        for (int page : new int[] {0, 7, 14}) {
            Space space = new Space(check, 16, 2);
            space.mapNew(page, 1, prot, backing).gives(0);
            space.mapNew(page + 1, 1, nextProt, nextBacking).gives(0);
            space.regionCount().gives(want);
            space.regionLength(0).gives(3 - want);
        }
    }

    private static void continuing(Check check) {
        check.sentence("Page p (p >= 1) CONTINUES page p-1 if and only if both are mapped, both have the same"
            + " protection, and one of these holds:");
        for (int before : BACKINGS) {
            for (int here : BACKINGS) {
                boolean goesOn = before == 0 ? here == 0 : here == before + 1 && here / 1024 == before / 1024;
                regionsOf(check, goesOn ? 1 : 2, 0, before, 0, here);
                regionsOf(check, goesOn ? 1 : 2, 7, before, 7, here);
                regionsOf(check, 2, 0, before, 1, here);
                regionsOf(check, 2, 7, before, 6, here);
            }
        }
        // A free page between: neither continues it, nor the other across it.
        new Space(check, 16, 2, "3+1:0:0 5+1:0:0").regionCount().gives(2);
        new Space(check, 16, 2, "3+1:0:1024 5+1:0:1026").regionCount().gives(2);
        new Space(check, 16, 2, "3+1:0:1024 5+1:0:1025").regionCount().gives(2);
        // Page 0 has no page before it, so it does not continue the last page.
        new Space(check, 16, 2, "0+1:0:0 15+1:0:0").regionCount().gives(2);
        new Space(check, 256, 2, "0+1:0:0 255+1:0:0").regionCount().gives(2);
    }

    private static void anonymousPages(Check check) {
        check.sentence("both have backing 0;");
        regionsOf(check, 1, 3, 0, 3, 0);
        regionsOf(check, 2, 3, 0, 3, 1024);
        regionsOf(check, 2, 3, 1024, 3, 0);
        regionsOf(check, 2, 3, 0, 2, 0);
        new Space(check, 256, 2, "0+256:3:0").regionCount().gives(1);
    }

    private static void pagesOfAnObject(Check check) {
        check.sentence("both have a backing >= 1024, of the same object, and the backing of p is the backing of"
            + " p-1 plus 1.");
        regionsOf(check, 1, 3, 1024, 3, 1025);
        regionsOf(check, 2, 3, 1025, 3, 1024);
        regionsOf(check, 2, 3, 1024, 3, 1024);
        regionsOf(check, 2, 3, 1024, 3, 1026);
        regionsOf(check, 2, 3, 1024, 3, 2049);
        regionsOf(check, 2, 3, 1024, 2, 1025);
        new Space(check, 256, 2, "0+256:3:1024").regionCount().gives(1);
    }

    private static void nextObject(Check check) {
        check.sentence("So backing 2047 followed by 2048 does not continue: the objects differ.");
        regionsOf(check, 2, 3, 2047, 3, 2048);
        regionsOf(check, 1, 3, 2046, 3, 2047);
        regionsOf(check, 1, 3, 2048, 3, 2049);
        Space space = new Space(check, 32, 2, "0+16:3:2032 16+16:3:2048");
        space.regionCount().gives(2);
        space.regionStart(1).gives(16);
        space.regionLength(0).gives(16);
        space.regionLength(1).gives(16);
    }

    private static void firstPageOfARegion(Check check) {
        check.sentence("That is, page p is the first page of a region if and only if p is mapped and (p is 0 or"
            + " p does not continue p-1).");
        Space space = new Space(check, 16, 16,
            "0+2:1:0 2+1:2:0 4+2:2:0 6+1:2:1024 7+3:2:1026 10+1:2:1028 13+1:2:1029 15+1:0:8191");
        int[] firsts = {0, 2, 4, 6, 7, 10, 13, 15};
        space.regionCount().gives(firsts.length);
        for (int k = 0; k < firsts.length; k++) {
            space.regionStart(k).gives(firsts[k]);
        }
        new Space(check, 16, 2, "0+16:0:0").regionStart(0).gives(0);
        new Space(check, 16, 2, "15+1:0:0").regionStart(0).gives(15);
    }

    private static void asTheMapIsNow(Check check) {
        check.sentence("Regions are always taken from the map as it is now; which calls made it plays no part.");
        Space pieces = new Space(check, 16, 4);
        pieces.mapNew(6, 2, 3, 1030).gives(0);
        pieces.mapNew(2, 2, 3, 1026).gives(0);
        pieces.mapNew(4, 2, 3, 1028).gives(0);
        oneRegion(pieces);
        Space cut = new Space(check, 16, 4, "0+16:3:1024");
        cut.unmap(8, 8).gives(8);
        cut.unmap(0, 2).gives(2);
        oneRegion(cut);
        Space replaced = new Space(check, 16, 4, "2+6:3:0");
        replaced.mapOver(4, 4, 3, 1028).gives(4);
        replaced.mapOver(2, 2, 3, 1026).gives(2);
        oneRegion(replaced);
        Space protectedPieces = new Space(check, 16, 4, "2+2:1:1026 4+2:2:1028 6+2:4:1030");
        protectedPieces.protect(2, 6, 3).gives(6);
        oneRegion(protectedPieces);
        Space moved = new Space(check, 16, 4, "2+2:3:1026 6+2:3:1030 12+2:3:1028");
        moved.move(12, 2, 4).gives(0);
        oneRegion(moved);
        Space movedFree = new Space(check, 16, 4, "2+2:3:1026 6+2:3:1030 12+2:3:1028");
        movedFree.moveFree(12, 2, 1).gives(4);
        oneRegion(movedFree);
        Space found = new Space(check, 16, 4, "6+2:3:1030");
        found.mapHigh(6, 2, 3, 1028).gives(4);
        found.mapLow(2, 2, 3, 1026).gives(2);
        oneRegion(found);
    }

    private static void oneRegion(Space space) {
        space.is("2+6:3:1026");
        space.regionCount().gives(1);
        space.regionStart(0).gives(2);
        space.regionLength(0).gives(6);
        space.regionStart(1).gives(RegionMap.BAD);
    }

    private static void numberedByFirstPage(Check check) {
        check.sentence("They are numbered 0, 1, 2, .. by ascending first page.");
        Space space = new Space(check, 64, 32);
        for (int k = 31; k >= 0; k--) {
            space.mapNew(2 * k, 1, 0, 0).gives(0);
            space.regionStart(0).gives(2 * k);
        }
        for (int k = 0; k < 32; k++) {
            space.regionStart(k).gives(2 * k);
        }
        space.unmap(0, 1).gives(1);
        space.regionStart(0).gives(2);
        space.regionStart(30).gives(62);
        space.mapNew(63, 1, 1, 0).gives(0);
        space.regionStart(31).gives(63);
    }

    private static void neverMoreThanAllowed(Check check) {
        check.sentence("There are never more than R regions.");
        for (int regions : new int[] {2, 3, 16, 31, 32}) {
            Space space = new Space(check, 128, regions);
            for (int k = 0; k < regions; k++) {
                space.mapNew(4 * k, 3, 3, 0).gives(0);
            }
            // At the end of the space, and cutting the first region, each would add one or two.
            space.mapNew(127, 1, 3, 1024).gives(RegionMap.FULL);
            space.mapOver(127, 1, 2, 0).gives(RegionMap.FULL);
            space.mapOver(1, 1, 2, 0).gives(RegionMap.FULL);
            space.mapLow(127, 1, 2, 0).gives(RegionMap.FULL);
            space.mapHigh(128, 1, 2, 1024).gives(RegionMap.FULL);
            space.unmap(1, 1).gives(RegionMap.FULL);
            space.protect(1, 1, 2).gives(RegionMap.FULL);
            space.protect(0, 1, 2).gives(RegionMap.FULL);
            space.move(1, 1, 127).gives(RegionMap.FULL);
            space.moveFree(1, 1, 127).gives(RegionMap.FULL);
            space.regionCount().gives(regions);
        }
    }

    private static void properRanges(Check check) {
        check.sentence("It is PROPER if start >= 0, len >= 1 and start + len <= P.");
        for (int pages : new int[] {16, 17, 256}) {
            int[][] byOne = {
                {-1, 1}, {-1, pages + 1}, {0, 0}, {pages - 1, 0}, {0, -1}, {0, pages + 1}, {1, pages}, {pages - 1, 2},
                {pages, 1},
            };
            Space empty = new Space(check, pages, 2);
            Space full = new Space(check, pages, 2, "0+" + pages + ":0:0");
            for (RangeCall call : RANGE_CALLS) {
                for (int[] range : byOne) {
                    call.on(empty, range[0], range[1]).gives(RegionMap.BAD);
                    call.on(full, range[0], range[1]).gives(RegionMap.BAD);
                }
            }
            for (int[] range : Edges.properRanges(pages)) {
                notBad(check, pages, range[0], range[1]);
            }
        }
    }

    private static void notBad(Check check, int pages, int start, int len) {
        Space empty = new Space(check, pages, 2);
        empty.protect(start, len, 0).gives(RegionMap.HOLE);
        empty.move(start, len, 0).gives(RegionMap.HOLE);
        empty.move(0, len, start).gives(RegionMap.HOLE);
        empty.moveFree(start, len, 0).gives(RegionMap.HOLE);
        empty.unmap(start, len).gives(0);
        empty.mapNew(start, len, 0, 0).gives(0);
        empty.mapOver(start, len, 0, 0).gives(len);
        empty.protect(start, len, 0).gives(0);
        empty.move(start, len, start).gives(0);
        empty.unmap(start, len).gives(len);
    }

    private static void hugeRanges(Check check) {
        check.sentence("The sum is taken as an exact integer without wrap-around, so very large arguments never"
            + " make a range proper.");
        for (int pages : new int[] {16, 17, 256}) {
            Space empty = new Space(check, pages, 2);
            Space full = new Space(check, pages, 2, "0+" + pages + ":0:0");
            for (RangeCall call : RANGE_CALLS) {
                for (int[] range : Edges.improperRanges(pages)) {
                    call.on(empty, range[0], range[1]).gives(RegionMap.BAD);
                    call.on(full, range[0], range[1]).gives(RegionMap.BAD);
                }
            }
        }
    }

    private static void properProtections(Check check) {
        check.sentence("(len, prot, backing) are PROPER if 0 <= prot <= 7");
        for (FillingCall call : FILLING_CALLS) {
            for (int prot : Edges.improperProts()) {
                call.on(new Space(check, 16, 2), 1, prot, 0).gives(RegionMap.BAD);
                call.on(new Space(check, 16, 2), 16, prot, 8000).gives(RegionMap.BAD);
            }
            for (int prot = 0; prot <= 7; prot++) {
                call.on(new Space(check, 16, 2), 1, prot, 0).gives(0);
                call.on(new Space(check, 16, 2), 16, prot, 8000).gives(0);
            }
        }
    }

    private static void properBackings(Check check) {
        check.sentence("and either backing is 0, or 1024 <= backing <= 8191 and (backing % 1024) + len <= 1024"
            + " (exact sum, without wrap-around).");
        for (FillingCall call : FILLING_CALLS) {
            for (int[] row : Edges.improperBackings()) {
                call.on(new Space(check, 16, 2), row[0], 0, row[1]).gives(RegionMap.BAD);
            }
            for (int[] row : Edges.properBackings()) {
                call.on(new Space(check, 16, 2), row[0], 0, row[1]).gives(0);
            }
            // The length is the one too large already, with and without a sum that wraps around.
            for (int len : new int[] {17, 1024, 1025, Edges.MOST - 1022, Edges.MOST - 1, Edges.MOST}) {
                for (int backing : BACKINGS) {
                    call.on(new Space(check, 16, 2), len, 0, backing).gives(RegionMap.BAD);
                }
            }
        }
    }

    /** Where an object ends within a fill, for every length; with one page, the next object begins there. */
    private static void longestFill(Check check) {
        check.sentence("and either backing is 0, or 1024 <= backing <= 8191 and (backing % 1024) + len <= 1024"
            + " (exact sum, without wrap-around).");
        for (int object = 1; object <= 7; object++) {
            for (int len = 2; len <= 256; len++) {
                int last = 1024 * object + 1024 - len;
                Space space = new Space(check, 256, 2);
                space.mapNew(0, len, 1, last + 1).gives(RegionMap.BAD);
                space.mapOver(256 - len, len, 1, last + 1).gives(RegionMap.BAD);
                space.mapLow(0, len, 1, last + 1).gives(RegionMap.BAD);
                space.mapHigh(256, len, 1, last + 1).gives(RegionMap.BAD);
                space.mapNew(0, len, 1, last).gives(0);
                space.backingOf(len - 1).gives(1024 * object + 1023);
            }
        }
    }

    private static void neverProperBackings(Check check) {
        check.sentence(
            "So a negative backing, a backing 1 .. 1023, and a backing above 8191 are never proper.");
        for (FillingCall call : FILLING_CALLS) {
            Space space = new Space(check, 16, 2);
            for (int backing = 1; backing <= 1023; backing++) {
                call.on(space, 1, 0, backing).gives(RegionMap.BAD);
                call.on(space, 1, 0, -backing).gives(RegionMap.BAD);
                call.on(space, 1, 0, 8191 + backing).gives(RegionMap.BAD);
            }
            for (int thousand = 1; thousand <= 64; thousand++) {
                call.on(space, 1, 0, -1024 * thousand).gives(RegionMap.BAD);
                call.on(space, 1, 0, 7168 + 1024 * thousand).gives(RegionMap.BAD);
            }
            call.on(space, 1, 0, Edges.LEAST).gives(RegionMap.BAD);
            call.on(space, 1, 0, Edges.LEAST + 1024).gives(RegionMap.BAD);
            call.on(space, 1, 0, Edges.MOST).gives(RegionMap.BAD);
            call.on(space, 1, 0, Edges.MOST - 1023).gives(RegionMap.BAD);
            space.is("");
        }
    }

    private static void filling(Check check) {
        check.sentence("To FILL a proper range (start, len) with prot and backing means: for each i = 0 .. len-1,"
            + " page start+i becomes mapped with protection prot and with backing 0 if backing is 0, else"
            + " backing + i.");
        for (FillingCall call : FILLING_CALLS) {
            for (int len : new int[] {1, 2, 15, 16}) {
                for (int backing : new int[] {0, 1024, 2048 - len, 2048, 8192 - len}) {
                    Space space = new Space(check, 16, 2);
                    call.on(space, len, 6, backing).gives(0);
                    for (int i = 0; i < 16; i++) {
                        space.protOf(i).gives(i < len ? 6 : RegionMap.FREE);
                        space.backingOf(i).gives(i >= len ? RegionMap.FREE : backing == 0 ? 0 : backing + i);
                    }
                }
            }
        }
    }

    private static void whatWasThereIsLost(Check check) {
        check.sentence("Whatever the page was before is lost.");
        Space space = new Space(check, 16, 8, "2+3:7:8189 5+3:1:0 8+2:0:2048");
        space.mapOver(2, 8, 3, 0).gives(8);
        space.is("2+8:3:0");
        space.mapOver(2, 8, 0, 1024).gives(8);
        space.is("2+8:0:1024");
        space.mapOver(2, 8, 0, 0).gives(8);
        space.is("2+8:0:0");
        // Nothing comes back when the page is freed and mapped again.
        space.unmap(2, 8).gives(8);
        space.mapNew(4, 2, 5, 0).gives(0);
        space.is("4+2:5:0");
    }

    private static void otherPagesStay(Check check) {
        check.sentence("All other pages stay as they are.");
        String runs = "0+5:1:2030 11+5:2:0";
        for (int start = 5; start < 11; start++) {
            for (int len = 1; start + len <= 11; len++) {
                String want = "0+5:1:2030 " + start + "+" + len + ":4:1100 11+5:2:0";
                Space fresh = new Space(check, 16, 4, runs);
                fresh.mapNew(start, len, 4, 1100).gives(0);
                fresh.is(want);
                Space over = new Space(check, 16, 4, runs);
                over.mapOver(start, len, 4, 1100).gives(0);
                over.is(want);
                Space low = new Space(check, 16, 4, runs);
                low.mapLow(start, len, 4, 1100).gives(start);
                low.is(want);
                Space high = new Space(check, 16, 4, runs);
                high.mapHigh(start + len, len, 4, 1100).gives(start);
                high.is(want);
            }
        }
    }
}
