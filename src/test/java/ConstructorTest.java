/** Promise 1: the constructor and the beginning. */
public final class ConstructorTest {
    public static void main(String[] args) {
        Check check = new Check("Promise 1: Constructor and beginning");
        belowTheLeast(check);
        aboveTheGreatest(check);
        between(check);
        everyInt(check);
        neverChange(check);
        otherObjectsChangeNothing(check);
        newObject(check);
        check.end();
    }

    private static void belowTheLeast(Check check) {
        check.sentence("a value below the least becomes the least");
        for (int pages : new int[] {Edges.LEAST, Edges.LEAST + 1, -256, -17, -16, -1, 0, 1, 2, 14, 15}) {
            sizes(check, pages, 4, 16, 4);
        }
        for (int regions : new int[] {Edges.LEAST, Edges.LEAST + 1, -32, -3, -2, -1, 0, 1}) {
            sizes(check, 64, regions, 64, 2);
        }
    }

    private static void aboveTheGreatest(Check check) {
        check.sentence("a value above the greatest becomes the greatest");
        for (int pages : new int[] {257, 258, 272, 512, 1000, 65536, 65552, Edges.MOST - 1, Edges.MOST}) {
            sizes(check, pages, 4, 256, 4);
        }
        for (int regions : new int[] {33, 34, 64, 256, 258, 65536, 65538, Edges.MOST - 1, Edges.MOST}) {
            sizes(check, 64, regions, 64, 32);
        }
    }

    private static void between(Check check) {
        check.sentence("any value between is taken as it is");
        for (int pages = 16; pages <= 256; pages++) {
            sizes(check, pages, 3, pages, 3);
        }
        for (int regions = 2; regions <= 32; regions++) {
            sizes(check, 100, regions, 100, regions);
            sizes(check, 16, regions, 16, regions);
        }
    }

    private static void everyInt(Check check) {
        check.sentence("Every int, negative ones included, is accepted for both.");
        int[] low = {Edges.LEAST, -1, 0};
        int[] high = {Edges.MOST, 1 << 30, 1000};
        for (int one : low) {
            for (int other : low) {
                sizes(check, one, other, 16, 2);
            }
            for (int other : high) {
                sizes(check, one, other, 16, 32);
                sizes(check, other, one, 256, 2);
            }
        }
        for (int one : high) {
            for (int other : high) {
                sizes(check, one, other, 256, 32);
            }
        }
    }

    /** That the object has just so many pages, and lets there be just so many regions. */
    private static void sizes(Check check, int pages, int regions, int wantPages, int wantRegions) {
        Space space = new Space(check, pages, regions);
        pagesAre(space, wantPages);
        regionsAtMost(space, wantPages, wantRegions);
    }

    private static void pagesAre(Space space, int pages) {
        space.longestGap().gives(pages);
        space.protOf(pages - 1).gives(RegionMap.FREE);
        space.protOf(pages).gives(RegionMap.BAD);
        space.findLow(pages - 1, 1).gives(pages - 1);
        space.findLow(pages, 1).gives(RegionMap.BAD);
        space.findHigh(pages, pages).gives(0);
        space.findHigh(pages + 1, 1).gives(RegionMap.BAD);
        space.mapNew(0, pages + 1, 0, 0).gives(RegionMap.BAD);
        space.mapNew(0, pages, 0, 0).gives(0);
        space.regionLength(0).gives(pages);
        space.unmap(0, pages).gives(pages);
    }

    /** Page after page with another protection than the one before: each is a region of its own. */
    private static void regionsAtMost(Space space, int pages, int regions) {
        int most = Math.min(pages, regions);
        for (int page = 0; page < most; page++) {
            space.mapNew(page, 1, page % 2, 0).gives(0);
        }
        space.regionCount().gives(most);
        if (pages > regions) {
            space.mapNew(regions, 1, regions % 2, 0).gives(RegionMap.FULL);
        }
    }

    private static void neverChange(Check check) {
        check.sentence("P and R never change afterwards.");
        Space space = new Space(check, 20, 3, "0+4:1:0 6+4:2:0 12+8:3:1024");
        space.mapOver(0, 20, 7, 8000).gives(16);
        space.unmap(4, 2).gives(2);
        space.protect(0, 1, 0).gives(1);
        space.protect(19, 1, 0).gives(RegionMap.FULL);
        space.move(0, 4, 16).gives(4);
        space.moveFree(16, 4, 0).gives(0);
        space.mapNew(0, 257, 0, 0).gives(RegionMap.BAD);
        space.mapLow(Edges.MOST, Edges.MOST, 0, 0).gives(RegionMap.BAD);
        space.mapHigh(21, 1, 0, 0).gives(RegionMap.BAD);
        space.unmap(0, 20).gives(14);
        pagesAre(space, 20);
        regionsAtMost(space, 20, 3);
    }

    private static void otherObjectsChangeNothing(Check check) {
        check.sentence("P and R never change afterwards.");
        Space space = new Space(check, 20, 3, "0+4:1:0 19+1:2:1024");
        Space larger = new Space(check, 256, 32, "0+256:5:1030");
        Space smaller = new Space(check, 16, 2, "3+2:0:0");
        space.is("0+4:1:0 19+1:2:1024");
        larger.is("0+256:5:1030");
        smaller.is("3+2:0:0");
        space.unmap(0, 20).gives(5);
        pagesAre(space, 20);
        regionsAtMost(space, 20, 3);
        smaller.unmap(0, 16).gives(2);
        pagesAre(smaller, 16);
        regionsAtMost(smaller, 16, 2);
        larger.is("0+256:5:1030");
    }

    private static void newObject(Check check) {
        check.sentence("In a new object every page is free, so there are no regions and the longest gap is P.");
        for (int pages : new int[] {16, 17, 100, 255, 256}) {
            Space space = new Space(check, pages, 2);
            for (int page = 0; page < pages; page++) {
                space.protOf(page).gives(RegionMap.FREE);
                space.backingOf(page).gives(RegionMap.FREE);
            }
            space.regionCount().gives(0);
            space.regionStart(0).gives(RegionMap.BAD);
            space.regionLength(0).gives(RegionMap.BAD);
            space.longestGap().gives(pages);
            space.unmap(0, pages).gives(0);
            space.is("");
        }
    }
}
