/** Promise 5: mapHigh. */
public final class MapHighTest {
    public static void main(String[] args) {
        Check check = new Check("Promise 5: mapHigh");
        highestPlace(check);
        wrongBoundsAndLengths(check);
        improperAttributes(check);
        placeOfFindHigh(check);
        noRoom(check);
        tooManyRegions(check);
        exactlyAllRegions(check);
        noOtherPlace(check);
        fillsAndAnswersThePlace(check);
        pagesOutside(check);
        inThisOrder(check);
        check.end();
    }

    private static void highestPlace(Check check) {
        check.sentence(
            "`mapHigh(to, len, prot, backing)` maps at the highest free place that ends not above `to`.");
        Space space = new Space(check, 32, 8, "22+2:2:0 28+2:1:0");
        space.mapHigh(32, 3, 3, 1030).gives(25);
        space.is("22+2:2:0 25+3:3:1030 28+2:1:0");
        space.mapHigh(31, 1, 4, 0).gives(30);
        space.mapHigh(28, 1, 5, 0).gives(24);
        space.mapHigh(12, 12, 7, 2048).gives(0);
        space.is("0+12:7:2048 22+2:2:0 24+1:5:0 25+3:3:1030 28+2:1:0 30+1:4:0");
        space.mapHigh(24, 10, 2, 0).gives(12);
        space.is("0+12:7:2048 12+12:2:0 24+1:5:0 25+3:3:1030 28+2:1:0 30+1:4:0");
        space.mapHigh(32, 1, 0, 8191).gives(31);
    }

    private static void wrongBoundsAndLengths(Check check) {
        check.sentence("`BAD` if to < 1, to > P, len < 1, len > P, or (len, prot, backing) is not proper.");
        for (int pages : new int[] {16, 32, 256}) {
            Space empty = new Space(check, pages, 2);
            Space full = new Space(check, pages, 2, "0+" + pages + ":1:0");
            int[] wrongTo = {0, -1, pages + 1, 257, 65537, -65535, Edges.LEAST, Edges.LEAST + 1,
                Edges.MOST - 1, Edges.MOST};
            int[] wrongLen = wrongTo;
            for (Space space : new Space[] {empty, full}) {
                for (int to : wrongTo) {
                    space.mapHigh(to, 1, 0, 0).gives(RegionMap.BAD);
                    space.mapHigh(to, pages, 0, 0).gives(RegionMap.BAD);
                    for (int len : wrongLen) {
                        space.mapHigh(to, len, 0, 0).gives(RegionMap.BAD);
                    }
                }
                for (int len : wrongLen) {
                    space.mapHigh(pages, len, 0, 0).gives(RegionMap.BAD);
                    space.mapHigh(1, len, 0, 0).gives(RegionMap.BAD);
                    space.mapHigh(pages, len, 0, 1025).gives(RegionMap.BAD);
                }
            }
            empty.is("");
            empty.mapHigh(1, 1, 0, 0).gives(0);
            empty.mapHigh(pages, 1, 0, 0).gives(pages - 1);
            new Space(check, pages, 2).mapHigh(pages, pages, 0, 0).gives(0);
        }
    }

    private static void improperAttributes(Check check) {
        check.sentence("`BAD` if to < 1, to > P, len < 1, len > P, or (len, prot, backing) is not proper.");
        Space space = new Space(check, 16, 2);
        for (int prot : Edges.improperProts()) {
            space.mapHigh(16, 1, prot, 0).gives(RegionMap.BAD);
            space.mapHigh(16, 16, prot, 1024).gives(RegionMap.BAD);
        }
        for (int[] row : Edges.improperBackings()) {
            space.mapHigh(16, row[0], 0, row[1]).gives(RegionMap.BAD);
        }
        space.is("");
        for (int[] row : Edges.properBackings()) {
            for (int prot = 0; prot <= 7; prot++) {
                Space another = new Space(check, 16, 2);
                another.mapHigh(16, row[0], prot, row[1]).gives(16 - row[0]);
                another.is((16 - row[0]) + "+" + row[0] + ":" + prot + ":" + row[1]);
            }
        }
    }

    private static void placeOfFindHigh(Check check) {
        check.sentence("Let t be the answer `findHigh(to, len)` gives now.");
        for (int to = 1; to <= 16; to++) {
            for (int len = 1; len <= 16; len++) {
                Space space = new Space(check, 16, 8, "1+1:0:0 4+2:1:0 9+1:2:0");
                int place = space.findHigh(to, len).got();
                space.mapHigh(to, len, 5, 0).gives(place);
            }
        }
    }

    private static void noRoom(Check check) {
        check.sentence("`NO_ROOM` if t is `NO_ROOM`; this includes the case that len > to.");
        Space space = new Space(check, 32, 2);
        space.mapHigh(1, 2, 0, 0).gives(RegionMap.NO_ROOM);
        space.mapHigh(31, 32, 0, 0).gives(RegionMap.NO_ROOM);
        space.mapHigh(1, 32, 0, 0).gives(RegionMap.NO_ROOM);
        space.mapHigh(15, 16, 0, 0).gives(RegionMap.NO_ROOM);
        space.is("");
        space.mapHigh(16, 16, 0, 0).gives(0);
        space.mapHigh(32, 17, 0, 0).gives(RegionMap.NO_ROOM);
        space.mapHigh(31, 16, 0, 0).gives(RegionMap.NO_ROOM);
        space.mapHigh(32, 16, 0, 0).gives(16);
        space.mapHigh(32, 1, 0, 0).gives(RegionMap.NO_ROOM);
        space.mapHigh(1, 1, 0, 0).gives(RegionMap.NO_ROOM);
        space.is("0+32:0:0");
        Space gap = new Space(check, 32, 2, "0+10:0:0 12+20:0:0");
        gap.mapHigh(32, 3, 0, 0).gives(RegionMap.NO_ROOM);
        gap.mapHigh(11, 2, 0, 0).gives(RegionMap.NO_ROOM);
        gap.mapHigh(10, 1, 0, 0).gives(RegionMap.NO_ROOM);
        gap.mapHigh(12, 2, 0, 0).gives(10);
    }

    private static void tooManyRegions(Check check) {
        check.sentence("`FULL` if the map after filling (t, len) would have more than R regions.");
        Space space = new Space(check, 32, 2, "4+2:1:0 10+2:2:0");
        space.mapHigh(32, 1, 2, 0).gives(RegionMap.FULL);
        space.mapHigh(4, 4, 2, 0).gives(RegionMap.FULL);
        space.mapHigh(10, 4, 3, 0).gives(RegionMap.FULL);
        space.mapHigh(32, 20, 2, 1024).gives(RegionMap.FULL);
        space.is("4+2:1:0 10+2:2:0");
        Space many = new Space(check, 256, 32);
        for (int k = 0; k < 32; k++) {
            many.mapHigh(256, 1, k % 8, 0).gives(255 - k);
        }
        many.mapHigh(256, 1, 0, 0).gives(RegionMap.FULL);
        many.mapHigh(1, 1, 7, 0).gives(RegionMap.FULL);
        many.regionCount().gives(32);
    }

    private static void exactlyAllRegions(Check check) {
        check.sentence("`FULL` if the map after filling (t, len) would have more than R regions.");
        Space space = new Space(check, 32, 2, "4+2:1:0");
        space.mapHigh(12, 2, 2, 0).gives(10);
        space.mapHigh(4, 2, 1, 0).gives(2);
        space.mapHigh(32, 20, 2, 0).gives(12);
        space.is("2+4:1:0 10+22:2:0");
        Space joining = new Space(check, 32, 2, "0+4:1:0 8+24:1:0");
        joining.mapHigh(32, 4, 1, 0).gives(4);
        joining.is("0+32:1:0");
    }

    private static void noOtherPlace(Check check) {
        check.sentence("No other place is tried then.");
        Space space = new Space(check, 32, 2, "4+2:1:0 10+2:2:0");
        // Further down, at 6 and at 2, it would join.
        space.mapHigh(32, 2, 1, 0).gives(RegionMap.FULL);
        space.mapHigh(10, 2, 1, 0).gives(RegionMap.FULL);
        space.is("4+2:1:0 10+2:2:0");
        space.mapHigh(5, 2, 1, 0).gives(2);
        space.is("2+4:1:0 10+2:2:0");
        // Two pages down in the same gap it would join too.
        space.mapHigh(16, 2, 2, 0).gives(RegionMap.FULL);
        space.mapHigh(14, 2, 2, 0).gives(12);
    }

    private static void fillsAndAnswersThePlace(Check check) {
        check.sentence("Else it fills (t, len) with prot and backing and answers t.");
        Space space = new Space(check, 32, 8, "28+4:1:0");
        space.mapHigh(32, 5, 6, 2043).gives(23);
        space.is("23+5:6:2043 28+4:1:0");
        space.mapHigh(30, 1, 0, 0).gives(22);
        space.mapHigh(1, 1, 7, 8191).gives(0);
        space.is("0+1:7:8191 22+1:0:0 23+5:6:2043 28+4:1:0");
        Space all = new Space(check, 256, 2);
        all.mapHigh(256, 256, 7, 1024).gives(0);
        all.is("0+256:7:1024");
    }

    private static void pagesOutside(Check check) {
        check.sentence("Pages outside (t, len) do not change.");
        Space space = new Space(check, 16, 8, "0+3:1:2040 7+4:2:0 13+3:0:8189");
        space.mapHigh(16, 3, 7, 1024).gives(4);
        space.is("0+3:1:2040 4+3:7:1024 7+4:2:0 13+3:0:8189");
        space.mapHigh(15, 2, 7, 0).gives(11);
        space.is("0+3:1:2040 4+3:7:1024 7+4:2:0 11+2:7:0 13+3:0:8189");
    }

    private static void inThisOrder(Check check) {
        check.sentence("In this order:");
        Space space = new Space(check, 32, 2, "0+20:1:0 22+10:2:0");
        // BAD and NO_ROOM.
        space.mapHigh(32, 3, 8, 0).gives(RegionMap.BAD);
        space.mapHigh(32, 3, 1, 1023).gives(RegionMap.BAD);
        space.mapHigh(32, 3, 1, 2046).gives(RegionMap.BAD);
        space.mapHigh(1, 2, 8, 0).gives(RegionMap.BAD);
        space.mapHigh(1, 2, 1, 2047).gives(RegionMap.BAD);
        space.mapHigh(1, 33, 1, 0).gives(RegionMap.BAD);
        space.mapHigh(0, 32, 1, 0).gives(RegionMap.BAD);
        // BAD and FULL.
        space.mapHigh(32, 1, 8, 0).gives(RegionMap.BAD);
        space.mapHigh(32, 1, 3, 8192).gives(RegionMap.BAD);
        space.mapHigh(33, 1, 3, 0).gives(RegionMap.BAD);
        // With no place at all there is nothing to fill, so the limit is not asked.
        space.mapHigh(32, 3, 3, 0).gives(RegionMap.NO_ROOM);
        space.mapHigh(21, 2, 3, 0).gives(RegionMap.NO_ROOM);
        space.mapHigh(32, 2, 3, 0).gives(RegionMap.FULL);
        space.is("0+20:1:0 22+10:2:0");
    }
}
