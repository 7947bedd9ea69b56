/** Promise 6: unmap. */
public final class UnmapTest {
    public static void main(String[] args) {
        Check check = new Check("Promise 6: unmap");
        freePagesToo(check);
        improperRange(check);
        tooManyRegions(check);
        exactlyAllRegions(check);
        freesAndCounts(check);
        allFreeAlready(check);
        pagesOutside(check);
        inThisOrder(check);
        check.end();
    }

    private static void freePagesToo(Check check) {
        check.sentence("`unmap(start, len)` frees a range; pages of it may be free already.");
        Space space = new Space(check, 32, 8, "4+4:0:1024 12+8:0:1032");
        space.unmap(7, 6).gives(2);
        space.is("4+3:0:1024 13+7:0:1033");
        space.unmap(3, 2).gives(1);
        space.unmap(19, 2).gives(1);
        space.is("5+2:0:1025 13+6:0:1033");
        space.unmap(0, 32).gives(8);
        space.is("");
        space.longestGap().gives(32);
    }

    private static void improperRange(Check check) {
        check.sentence("`BAD` if (start, len) is not proper.");
        for (int pages : new int[] {16, 32, 256}) {
            Space empty = new Space(check, pages, 2);
            Space full = new Space(check, pages, 2, "0+" + pages + ":1:0");
            for (int[] range : Edges.improperRanges(pages)) {
                empty.unmap(range[0], range[1]).gives(RegionMap.BAD);
                full.unmap(range[0], range[1]).gives(RegionMap.BAD);
            }
            full.is("0+" + pages + ":1:0");
            for (int[] range : Edges.properRanges(pages)) {
                empty.unmap(range[0], range[1]).gives(0);
                Space another = new Space(check, pages, 2, "0+" + pages + ":1:0");
                another.unmap(range[0], range[1]).gives(range[1]);
            }
        }
    }

    private static void tooManyRegions(Check check) {
        check.sentence("`FULL` if the map with the range freed would have more than R regions"
            + " (freeing the middle of a region leaves two).");
        Space two = new Space(check, 16, 2, "0+5:1:0 6+10:1:0");
        two.unmap(10, 1).gives(RegionMap.FULL);
        two.unmap(1, 1).gives(RegionMap.FULL);
        two.unmap(1, 3).gives(RegionMap.FULL);
        two.unmap(7, 8).gives(RegionMap.FULL);
        two.is("0+5:1:0 6+10:1:0");
        Space objects = new Space(check, 32, 2, "0+8:1:1024 8+8:1:2048");
        objects.unmap(3, 1).gives(RegionMap.FULL);
        objects.unmap(12, 3).gives(RegionMap.FULL);
        Space many = new Space(check, 256, 32);
        for (int k = 0; k < 32; k++) {
            many.mapNew(8 * k, 3, 3, 0).gives(0);
        }
        for (int k = 0; k < 32; k++) {
            many.unmap(8 * k + 1, 1).gives(RegionMap.FULL);
        }
        many.regionCount().gives(32);
    }

    private static void exactlyAllRegions(Check check) {
        check.sentence("`FULL` if the map with the range freed would have more than R regions"
            + " (freeing the middle of a region leaves two).");
        Space space = new Space(check, 32, 2, "0+32:1:0");
        space.unmap(5, 1).gives(1);
        space.is("0+5:1:0 6+26:1:0");
        space.unmap(4, 3).gives(2);
        space.unmap(31, 1).gives(1);
        space.unmap(0, 1).gives(1);
        space.is("1+3:1:0 7+24:1:0");
        space.unmap(3, 20).gives(17);
        space.is("1+2:1:0 23+8:1:0");
        space.unmap(0, 3).gives(2);
        space.unmap(25, 1).gives(1);
        space.is("23+2:1:0 26+5:1:0");
        Space cut = new Space(check, 32, 3, "0+4:1:0 4+4:2:0 8+4:3:0");
        cut.unmap(2, 8).gives(8);
        cut.is("0+2:1:0 10+2:3:0");
        cut.unmap(11, 1).gives(1);
        cut.is("0+2:1:0 10+1:3:0");
    }

    private static void freesAndCounts(Check check) {
        check.sentence("Else every page of the range becomes free, and the answer is how many of them were"
            + " mapped before the call (0 .. len).");
        Space space = new Space(check, 32, 8, "4+16:0:1024 31+1:7:0");
        space.unmap(8, 4).gives(4);
        space.is("4+4:0:1024 12+8:0:1032 31+1:7:0");
        for (int page = 8; page < 12; page++) {
            space.protOf(page).gives(RegionMap.FREE);
            space.backingOf(page).gives(RegionMap.FREE);
        }
        space.unmap(7, 1).gives(1);
        space.unmap(31, 1).gives(1);
        space.unmap(0, 5).gives(1);
        space.is("5+2:0:1025 12+8:0:1032");
        space.unmap(0, 32).gives(10);
        space.is("");
        Space full = new Space(check, 256, 2, "0+256:0:0");
        full.unmap(0, 256).gives(256);
        full.is("");
    }

    private static void allFreeAlready(Check check) {
        check.sentence("If all pages of the range are free already, the answer is 0 and nothing changes.");
        Space empty = new Space(check, 32, 2);
        empty.unmap(0, 32).gives(0);
        empty.unmap(0, 1).gives(0);
        empty.unmap(31, 1).gives(0);
        empty.is("");
        Space space = new Space(check, 32, 2, "4+4:3:1024 12+8:3:1028");
        space.unmap(0, 4).gives(0);
        space.unmap(8, 4).gives(0);
        space.unmap(20, 12).gives(0);
        space.is("4+4:3:1024 12+8:3:1028");
    }

    private static void pagesOutside(Check check) {
        check.sentence("Pages outside the range do not change.");
        Space space = new Space(check, 16, 4, "0+6:1:2030 6+10:2:0");
        space.unmap(5, 3).gives(3);
        space.is("0+5:1:2030 8+8:2:0");
        space.unmap(0, 1).gives(1);
        space.unmap(15, 1).gives(1);
        space.is("1+4:1:2031 8+7:2:0");
    }

    private static void inThisOrder(Check check) {
        check.sentence("In this order:");
        // Each would free the middle of a region, if the range were cut down to what there is of it.
        Space space = new Space(check, 16, 2, "0+6:1:0 8+8:1:0");
        space.unmap(2, -1).gives(RegionMap.BAD);
        space.unmap(2, 0).gives(RegionMap.BAD);
        space.unmap(-1, 3).gives(RegionMap.BAD);
        space.unmap(2, Edges.MOST).gives(RegionMap.BAD);
        space.unmap(12, 5).gives(RegionMap.BAD);
        space.unmap(2, 1).gives(RegionMap.FULL);
        space.is("0+6:1:0 8+8:1:0");
    }
}
