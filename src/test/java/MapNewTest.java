/** Promise 2: mapNew. */
public final class MapNewTest {
    public static void main(String[] args) {
        Check check = new Check("Promise 2: mapNew");
        whollyFree(check);
        improperRange(check);
        improperAttributes(check);
        taken(check);
        tooManyRegions(check);
        exactlyAllRegions(check);
        fills(check);
        pagesOutside(check);
        joins(check);
        inThisOrder(check);
        check.end();
    }

    private static void whollyFree(Check check) {
        check.sentence("`mapNew(start, len, prot, backing)` maps a range that must be wholly free.");
        Space empty = new Space(check, 32, 2);
        empty.mapNew(0, 32, 3, 1034).gives(0);
        empty.is("0+32:3:1034");
        Space full = new Space(check, 32, 2, "0+32:3:1034");
        for (int page = 0; page < 32; page++) {
            full.mapNew(page, 1, 0, 0).gives(RegionMap.TAKEN);
        }
        Space lastPageFree = new Space(check, 32, 2, "0+31:3:0");
        lastPageFree.mapNew(30, 2, 3, 0).gives(RegionMap.TAKEN);
        lastPageFree.mapNew(31, 1, 3, 0).gives(0);
        lastPageFree.is("0+32:3:0");
    }

    private static void improperRange(Check check) {
        check.sentence("`BAD` if (start, len) is not proper or (len, prot, backing) is not proper.");
        for (int pages : new int[] {16, 32, 256}) {
            Space space = new Space(check, pages, 2);
            for (int[] range : Edges.improperRanges(pages)) {
                space.mapNew(range[0], range[1], 0, 0).gives(RegionMap.BAD);
                space.mapNew(range[0], range[1], 0, 1025).gives(RegionMap.BAD);
            }
            space.is("");
            for (int[] range : Edges.properRanges(pages)) {
                new Space(check, pages, 2).mapNew(range[0], range[1], 0, 0).gives(0);
            }
        }
    }

    private static void improperAttributes(Check check) {
        check.sentence("`BAD` if (start, len) is not proper or (len, prot, backing) is not proper.");
        Space space = new Space(check, 16, 2);
        for (int prot : Edges.improperProts()) {
            space.mapNew(0, 1, prot, 0).gives(RegionMap.BAD);
            space.mapNew(0, 16, prot, 1024).gives(RegionMap.BAD);
        }
        for (int[] row : Edges.improperBackings()) {
            space.mapNew(0, row[0], 0, row[1]).gives(RegionMap.BAD);
        }
        space.is("");
        for (int[] row : Edges.properBackings()) {
            for (int prot = 0; prot <= 7; prot++) {
                Space another = new Space(check, 16, 2);
                another.mapNew(0, row[0], prot, row[1]).gives(0);
                another.is("0+" + row[0] + ":" + prot + ":" + row[1]);
            }
        }
    }

    private static void taken(Check check) {
        check.sentence("`TAKEN` if any page of the range is mapped, whatever its attributes.");
        for (int page = 10; page < 15; page++) {
            Space space = new Space(check, 32, 8, page + "+1:3:1034");
            space.mapNew(10, 5, 0, 0).gives(RegionMap.TAKEN);
        }
        for (int prot = 0; prot <= 7; prot++) {
            for (int backing : new int[] {0, 1024, 2047, 8191}) {
                Space space = new Space(check, 32, 8, "10+1:" + prot + ":" + backing);
                space.mapNew(10, 1, prot, backing).gives(RegionMap.TAKEN);
                space.mapNew(9, 2, 0, 0).gives(RegionMap.TAKEN);
                space.mapNew(10, 2, 7, 1024).gives(RegionMap.TAKEN);
                space.mapNew(0, 32, 3, 0).gives(RegionMap.TAKEN);
            }
        }
        Space beside = new Space(check, 32, 8, "9+1:1:0 15+1:2:0");
        beside.mapNew(10, 5, 3, 0).gives(0);
        beside.is("9+1:1:0 10+5:3:0 15+1:2:0");
    }

    private static void tooManyRegions(Check check) {
        check.sentence("`FULL` if the map after filling the range would have more than R regions.");
        Space two = new Space(check, 16, 2, "0+2:1:0 4+2:1:0");
        two.mapNew(8, 2, 1, 0).gives(RegionMap.FULL);
        two.mapNew(15, 1, 1, 0).gives(RegionMap.FULL);
        two.mapNew(6, 2, 2, 0).gives(RegionMap.FULL);
        two.mapNew(6, 10, 1, 1024).gives(RegionMap.FULL);
        two.mapNew(2, 2, 2, 0).gives(RegionMap.FULL);
        two.mapNew(3, 1, 2, 0).gives(RegionMap.FULL);
        two.is("0+2:1:0 4+2:1:0");
        Space many = new Space(check, 256, 32);
        for (int k = 0; k < 32; k++) {
            many.mapNew(8 * k, 4, 3, 0).gives(0);
        }
        many.mapNew(255, 1, 3, 0).gives(RegionMap.FULL);
        many.mapNew(4, 4, 2, 0).gives(RegionMap.FULL);
        many.mapNew(5, 2, 3, 0).gives(RegionMap.FULL);
        many.regionCount().gives(32);
    }

    private static void exactlyAllRegions(Check check) {
        check.sentence("`FULL` if the map after filling the range would have more than R regions.");
        Space space = new Space(check, 32, 2, "0+2:1:0");
        space.mapNew(4, 2, 1, 0).gives(0);
        space.regionCount().gives(2);
        space.mapNew(6, 2, 1, 0).gives(0);
        space.mapNew(3, 1, 1, 0).gives(0);
        space.is("0+2:1:0 3+5:1:0");
        space.mapNew(2, 1, 1, 0).gives(0);
        space.is("0+8:1:0");
        space.mapNew(10, 2, 1, 0).gives(0);
        space.mapNew(12, 2, 1, 1024).gives(RegionMap.FULL);
    }

    private static void fills(Check check) {
        check.sentence("Else it fills the range and answers 0.");
        Space space = new Space(check, 32, 8);
        space.mapNew(4, 4, 3, 1034).gives(0);
        space.is("4+4:3:1034");
        space.mapNew(0, 1, 0, 0).gives(0);
        space.mapNew(31, 1, 7, 8191).gives(0);
        space.is("0+1:0:0 4+4:3:1034 31+1:7:8191");
        space.mapNew(9, 3, 5, 0).gives(0);
        space.is("0+1:0:0 4+4:3:1034 9+3:5:0 31+1:7:8191");
    }

    private static void pagesOutside(Check check) {
        check.sentence("Pages outside the range do not change.");
        Space space = new Space(check, 16, 4, "0+4:1:2040 8+8:2:0");
        space.mapNew(4, 4, 7, 1024).gives(0);
        space.is("0+4:1:2040 4+4:7:1024 8+8:2:0");
        Space gaps = new Space(check, 16, 4, "0+4:1:2040 8+8:2:0");
        gaps.mapNew(5, 2, 7, 0).gives(0);
        gaps.is("0+4:1:2040 5+2:7:0 8+8:2:0");
    }

    private static void joins(Check check) {
        check.sentence("The filled pages may join regions on either side if they continue.");
        Space both = new Space(check, 32, 8, "4+4:3:1034 12+4:3:1042");
        both.mapNew(8, 4, 3, 1038).gives(0);
        both.is("4+12:3:1034");
        both.regionCount().gives(1);
        both.regionLength(0).gives(12);
        Space below = new Space(check, 32, 8, "4+4:3:1034 12+4:3:1044");
        below.mapNew(8, 4, 3, 1038).gives(0);
        below.regionCount().gives(2);
        below.regionLength(0).gives(8);
        Space above = new Space(check, 32, 8, "4+4:3:1033 12+4:3:1042");
        above.mapNew(8, 4, 3, 1038).gives(0);
        above.regionCount().gives(2);
        above.regionStart(1).gives(8);
        Space neither = new Space(check, 32, 8, "4+4:3:1034 12+4:3:1042");
        neither.mapNew(8, 4, 2, 1038).gives(0);
        neither.regionCount().gives(3);
        Space anonymous = new Space(check, 32, 8, "4+4:3:0 12+4:3:0");
        anonymous.mapNew(8, 4, 3, 0).gives(0);
        anonymous.regionCount().gives(1);
        Space object = new Space(check, 32, 8, "4+4:3:0 12+4:3:0");
        object.mapNew(8, 4, 3, 1024).gives(0);
        object.regionCount().gives(3);
    }

    private static void inThisOrder(Check check) {
        check.sentence("In this order:");
        Space space = new Space(check, 32, 2, "0+2:1:0 30+2:2:0");
        // BAD and TAKEN.
        space.mapNew(-1, 2, 1, 0).gives(RegionMap.BAD);
        space.mapNew(31, 2, 1, 0).gives(RegionMap.BAD);
        space.mapNew(0, 33, 1, 0).gives(RegionMap.BAD);
        space.mapNew(0, 2, 8, 0).gives(RegionMap.BAD);
        space.mapNew(0, 2, 1, 2047).gives(RegionMap.BAD);
        // BAD and FULL.
        space.mapNew(10, 2, -1, 0).gives(RegionMap.BAD);
        space.mapNew(10, 2, 1, 1023).gives(RegionMap.BAD);
        space.mapNew(10, 2, 1, 8191).gives(RegionMap.BAD);
        // TAKEN and FULL.
        space.mapNew(1, 4, 3, 0).gives(RegionMap.TAKEN);
        space.mapNew(28, 3, 1, 0).gives(RegionMap.TAKEN);
        space.mapNew(0, 1, 3, 1024).gives(RegionMap.TAKEN);
        // All three.
        space.mapNew(1, 4, 8, 0).gives(RegionMap.BAD);
        space.is("0+2:1:0 30+2:2:0");
    }
}
