/** Promise 3: mapOver. */
public final class MapOverTest {
    public static void main(String[] args) {
        Check check = new Check("Promise 3: mapOver");
        replaces(check);
        improperRange(check);
        improperAttributes(check);
        tooManyRegions(check);
        exactlyAllRegions(check);
        answersPagesMapped(check);
        samePagesCountToo(check);
        pagesOutside(check);
        inThisOrder(check);
        check.end();
    }

    private static void replaces(Check check) {
        check.sentence("`mapOver(start, len, prot, backing)` maps a range, replacing what is there.");
        Space space = new Space(check, 32, 8, "0+16:3:1024");
        space.mapOver(4, 4, 3, 2048).gives(4);
        space.is("0+4:3:1024 4+4:3:2048 8+8:3:1032");
        space.regionCount().gives(3);
        space.mapOver(4, 4, 3, 1028).gives(4);
        space.is("0+16:3:1024");
        space.regionCount().gives(1);
        space.mapOver(15, 3, 2, 1039).gives(1);
        space.is("0+15:3:1024 15+3:2:1039");
        space.mapOver(10, 10, 1, 0).gives(8);
        space.is("0+10:3:1024 10+10:1:0");
        space.mapOver(0, 32, 5, 1024).gives(20);
        space.is("0+32:5:1024");
        space.mapOver(0, 32, 0, 0).gives(32);
        space.is("0+32:0:0");
    }

    private static void improperRange(Check check) {
        check.sentence("`BAD` if (start, len) is not proper or (len, prot, backing) is not proper.");
        for (int pages : new int[] {16, 32, 256}) {
            Space empty = new Space(check, pages, 2);
            Space full = new Space(check, pages, 2, "0+" + pages + ":1:0");
            for (int[] range : Edges.improperRanges(pages)) {
                empty.mapOver(range[0], range[1], 0, 0).gives(RegionMap.BAD);
                full.mapOver(range[0], range[1], 1, 0).gives(RegionMap.BAD);
                full.mapOver(range[0], range[1], 1, 1025).gives(RegionMap.BAD);
            }
            empty.is("");
            for (int[] range : Edges.properRanges(pages)) {
                new Space(check, pages, 2).mapOver(range[0], range[1], 0, 0).gives(0);
                full.mapOver(range[0], range[1], 1, 0).gives(range[1]);
            }
        }
    }

    private static void improperAttributes(Check check) {
        check.sentence("`BAD` if (start, len) is not proper or (len, prot, backing) is not proper.");
        Space space = new Space(check, 16, 2, "0+16:1:0");
        for (int prot : Edges.improperProts()) {
            space.mapOver(0, 1, prot, 0).gives(RegionMap.BAD);
            space.mapOver(0, 16, prot, 1024).gives(RegionMap.BAD);
        }
        for (int[] row : Edges.improperBackings()) {
            space.mapOver(0, row[0], 0, row[1]).gives(RegionMap.BAD);
        }
        space.is("0+16:1:0");
        for (int[] row : Edges.properBackings()) {
            for (int prot = 0; prot <= 7; prot++) {
                Space another = new Space(check, 16, 2);
                another.mapOver(16 - row[0], row[0], prot, row[1]).gives(0);
                another.is((16 - row[0]) + "+" + row[0] + ":" + prot + ":" + row[1]);
            }
        }
    }

    private static void tooManyRegions(Check check) {
        check.sentence("`FULL` if the map after filling the range would have more than R regions.");
        Space one = new Space(check, 32, 2, "0+8:1:0");
        one.mapOver(2, 2, 2, 0).gives(RegionMap.FULL);
        one.mapOver(1, 6, 1, 1024).gives(RegionMap.FULL);
        Space two = new Space(check, 32, 2, "0+6:1:0 6+2:2:0");
        two.mapOver(10, 1, 2, 0).gives(RegionMap.FULL);
        two.mapOver(7, 1, 3, 0).gives(RegionMap.FULL);
        two.mapOver(5, 2, 3, 0).gives(RegionMap.FULL);
        two.is("0+6:1:0 6+2:2:0");
        Space many = new Space(check, 64, 32);
        for (int page = 0; page < 32; page++) {
            many.mapOver(2 * page, 1, 1, 0).gives(0);
        }
        many.mapOver(1, 1, 2, 0).gives(RegionMap.FULL);
        many.mapOver(62, 2, 2, 0).gives(1);
        many.mapOver(63, 1, 1, 0).gives(RegionMap.FULL);
        many.regionCount().gives(32);
    }

    private static void exactlyAllRegions(Check check) {
        check.sentence("`FULL` if the map after filling the range would have more than R regions.");
        Space space = new Space(check, 32, 2, "0+8:1:0");
        space.mapOver(6, 2, 2, 0).gives(2);
        space.is("0+6:1:0 6+2:2:0");
        space.mapOver(4, 2, 2, 0).gives(2);
        space.is("0+4:1:0 4+4:2:0");
        space.mapOver(6, 4, 2, 0).gives(2);
        space.is("0+4:1:0 4+6:2:0");
        space.mapOver(4, 6, 3, 1024).gives(6);
        space.is("0+4:1:0 4+6:3:1024");
        space.mapOver(0, 12, 3, 0).gives(10);
        space.is("0+12:3:0");
    }

    private static void answersPagesMapped(Check check) {
        check.sentence(
            "Else it fills the range and answers how many of its pages were mapped before the call (0 .. len).");
        Space space = new Space(check, 32, 8);
        space.mapOver(4, 4, 0, 0).gives(0);
        space.mapOver(6, 4, 1, 0).gives(2);
        space.mapOver(2, 3, 2, 0).gives(1);
        space.mapOver(0, 2, 3, 0).gives(0);
        space.mapOver(31, 1, 4, 0).gives(0);
        space.mapOver(31, 1, 5, 0).gives(1);
        space.is("0+2:3:0 2+3:2:0 5+1:0:0 6+4:1:0 31+1:5:0");
        space.mapOver(1, 31, 6, 1024).gives(10);
        space.mapOver(0, 32, 6, 1024).gives(32);
        Space holes = new Space(check, 256, 32, "1+1:0:0 3+1:1:0 5+1:2:1024 255+1:7:8191");
        holes.mapOver(0, 256, 0, 7168).gives(4);
        holes.is("0+256:0:7168");
    }

    private static void samePagesCountToo(Check check) {
        check.sentence("Pages whose attributes happen to stay the same count too.");
        Space space = new Space(check, 32, 2, "4+4:0:0 10+4:3:1030");
        space.mapOver(4, 4, 0, 0).gives(4);
        space.mapOver(5, 1, 0, 0).gives(1);
        space.mapOver(10, 4, 3, 1030).gives(4);
        space.mapOver(12, 2, 3, 1032).gives(2);
        space.is("4+4:0:0 10+4:3:1030");
        space.mapOver(12, 4, 3, 1032).gives(2);
        space.is("4+4:0:0 10+6:3:1030");
    }

    private static void pagesOutside(Check check) {
        check.sentence("Pages outside the range do not change.");
        Space space = new Space(check, 16, 4, "0+6:1:2030 6+10:2:0");
        space.mapOver(5, 2, 7, 1024).gives(2);
        space.is("0+5:1:2030 5+2:7:1024 7+9:2:0");
        Space gaps = new Space(check, 16, 4, "0+4:1:2030 9+7:2:0");
        gaps.mapOver(5, 2, 7, 0).gives(0);
        gaps.is("0+4:1:2030 5+2:7:0 9+7:2:0");
        Space inside = new Space(check, 16, 4, "0+16:1:2030");
        inside.mapOver(15, 1, 1, 0).gives(1);
        inside.mapOver(0, 1, 1, 0).gives(1);
        inside.is("0+1:1:0 1+14:1:2031 15+1:1:0");
    }

    private static void inThisOrder(Check check) {
        check.sentence("In this order:");
        Space space = new Space(check, 32, 2, "0+8:1:0 30+2:2:0");
        // BAD and FULL.
        space.mapOver(3, 2, 8, 0).gives(RegionMap.BAD);
        space.mapOver(3, 2, -1, 0).gives(RegionMap.BAD);
        space.mapOver(3, 2, 1, 2047).gives(RegionMap.BAD);
        space.mapOver(3, 2, 1, 1023).gives(RegionMap.BAD);
        space.mapOver(31, 2, 3, 0).gives(RegionMap.BAD);
        space.mapOver(-1, 2, 3, 0).gives(RegionMap.BAD);
        space.mapOver(3, 2, 2, 0).gives(RegionMap.FULL);
        space.is("0+8:1:0 30+2:2:0");
    }
}
