/** Promise 4: mapLow. */
public final class MapLowTest {
    public static void main(String[] args) {
        Check check = new Check("Promise 4: mapLow");
        lowestPlace(check);
        wrongBoundsAndLengths(check);
        improperAttributes(check);
        placeOfFindLow(check);
        noRoom(check);
        tooManyRegions(check);
        exactlyAllRegions(check);
        noOtherPlace(check);
        fillsAndAnswersThePlace(check);
        pagesOutside(check);
        inThisOrder(check);
        check.end();
    }

    private static void lowestPlace(Check check) {
        check.sentence("`mapLow(from, len, prot, backing)` maps at the lowest free place not below `from`.");
        Space space = new Space(check, 32, 8, "2+2:1:0 8+2:2:0");
        space.mapLow(0, 3, 3, 1030).gives(4);
        space.is("2+2:1:0 4+3:3:1030 8+2:2:0");
        space.mapLow(1, 2, 4, 0).gives(10);
        space.mapLow(1, 1, 5, 0).gives(1);
        space.mapLow(3, 1, 6, 0).gives(7);
        space.mapLow(20, 12, 7, 2048).gives(20);
        space.is("1+1:5:0 2+2:1:0 4+3:3:1030 7+1:6:0 8+2:2:0 10+2:4:0 20+12:7:2048");
        space.mapLow(9, 8, 4, 0).gives(12);
        space.is("1+1:5:0 2+2:1:0 4+3:3:1030 7+1:6:0 8+2:2:0 10+10:4:0 20+12:7:2048");
        space.mapLow(0, 1, 5, 0).gives(0);
    }

    private static void wrongBoundsAndLengths(Check check) {
        check.sentence("`BAD` if from < 0, from >= P, len < 1, len > P, or (len, prot, backing) is not proper.");
        for (int pages : new int[] {16, 32, 256}) {
            Space empty = new Space(check, pages, 2);
            Space full = new Space(check, pages, 2, "0+" + pages + ":1:0");
            int[] wrongFrom = {-1, pages, pages + 1, 256, 65536, -65536, Edges.LEAST, Edges.LEAST + 1,
                Edges.MOST - 1, Edges.MOST};
            int[] wrongLen = {0, -1, pages + 1, 257, 65537, -65535, Edges.LEAST, Edges.LEAST + 1,
                Edges.MOST - 1, Edges.MOST};
            for (Space space : new Space[] {empty, full}) {
                for (int from : wrongFrom) {
                    space.mapLow(from, 1, 0, 0).gives(RegionMap.BAD);
                    space.mapLow(from, pages, 0, 0).gives(RegionMap.BAD);
                    for (int len : wrongLen) {
                        space.mapLow(from, len, 0, 0).gives(RegionMap.BAD);
                    }
                }
                for (int len : wrongLen) {
                    space.mapLow(0, len, 0, 0).gives(RegionMap.BAD);
                    space.mapLow(pages - 1, len, 0, 0).gives(RegionMap.BAD);
                    space.mapLow(0, len, 0, 1025).gives(RegionMap.BAD);
                }
            }
            empty.is("");
            empty.mapLow(pages - 1, 1, 0, 0).gives(pages - 1);
            empty.mapLow(0, 1, 0, 0).gives(0);
            new Space(check, pages, 2).mapLow(0, pages, 0, 0).gives(0);
        }
    }

    private static void improperAttributes(Check check) {
        check.sentence("`BAD` if from < 0, from >= P, len < 1, len > P, or (len, prot, backing) is not proper.");
        Space space = new Space(check, 16, 2);
        for (int prot : Edges.improperProts()) {
            space.mapLow(0, 1, prot, 0).gives(RegionMap.BAD);
            space.mapLow(0, 16, prot, 1024).gives(RegionMap.BAD);
        }
        for (int[] row : Edges.improperBackings()) {
            space.mapLow(0, row[0], 0, row[1]).gives(RegionMap.BAD);
        }
        space.is("");
        for (int[] row : Edges.properBackings()) {
            for (int prot = 0; prot <= 7; prot++) {
                Space another = new Space(check, 16, 2);
                another.mapLow(0, row[0], prot, row[1]).gives(0);
                another.is("0+" + row[0] + ":" + prot + ":" + row[1]);
            }
        }
    }

    private static void placeOfFindLow(Check check) {
        check.sentence("Let t be the answer `findLow(from, len)` gives now.");
        for (int from = 0; from < 16; from++) {
            for (int len = 1; len <= 16; len++) {
                Space space = new Space(check, 16, 8, "1+1:0:0 4+2:1:0 9+1:2:0");
                int place = space.findLow(from, len).got();
                space.mapLow(from, len, 5, 0).gives(place);
            }
        }
    }

    private static void noRoom(Check check) {
        check.sentence("`NO_ROOM` if t is `NO_ROOM`; this includes the case that from + len > P.");
        Space space = new Space(check, 32, 2);
        space.mapLow(31, 2, 0, 0).gives(RegionMap.NO_ROOM);
        space.mapLow(1, 32, 0, 0).gives(RegionMap.NO_ROOM);
        space.mapLow(31, 32, 0, 0).gives(RegionMap.NO_ROOM);
        space.mapLow(17, 16, 0, 0).gives(RegionMap.NO_ROOM);
        space.is("");
        space.mapLow(16, 16, 0, 0).gives(16);
        space.mapLow(0, 17, 0, 0).gives(RegionMap.NO_ROOM);
        space.mapLow(1, 16, 0, 0).gives(RegionMap.NO_ROOM);
        space.mapLow(0, 16, 0, 0).gives(0);
        space.mapLow(0, 1, 0, 0).gives(RegionMap.NO_ROOM);
        space.mapLow(31, 1, 0, 0).gives(RegionMap.NO_ROOM);
        space.is("0+32:0:0");
        Space gap = new Space(check, 32, 2, "0+10:0:0 12+20:0:0");
        gap.mapLow(0, 3, 0, 0).gives(RegionMap.NO_ROOM);
        gap.mapLow(11, 2, 0, 0).gives(RegionMap.NO_ROOM);
        gap.mapLow(12, 1, 0, 0).gives(RegionMap.NO_ROOM);
        gap.mapLow(10, 2, 0, 0).gives(10);
    }

    private static void tooManyRegions(Check check) {
        check.sentence("`FULL` if the map after filling (t, len) would have more than R regions.");
        Space space = new Space(check, 32, 2, "4+2:1:0 10+2:2:0");
        space.mapLow(0, 1, 1, 0).gives(RegionMap.FULL);
        space.mapLow(0, 4, 2, 0).gives(RegionMap.FULL);
        space.mapLow(6, 4, 3, 0).gives(RegionMap.FULL);
        space.mapLow(11, 20, 2, 1024).gives(RegionMap.FULL);
        space.is("4+2:1:0 10+2:2:0");
        Space many = new Space(check, 256, 32);
        for (int k = 0; k < 32; k++) {
            many.mapLow(k, 1, k % 8, 0).gives(k);
        }
        many.mapLow(0, 1, 0, 0).gives(RegionMap.FULL);
        many.mapLow(255, 1, 7, 0).gives(RegionMap.FULL);
        many.regionCount().gives(32);
    }

    private static void exactlyAllRegions(Check check) {
        check.sentence("`FULL` if the map after filling (t, len) would have more than R regions.");
        Space space = new Space(check, 32, 2, "4+2:1:0");
        space.mapLow(10, 2, 2, 0).gives(10);
        space.mapLow(0, 4, 1, 0).gives(0);
        space.mapLow(12, 2, 2, 0).gives(12);
        space.is("0+6:1:0 10+4:2:0");
        Space joining = new Space(check, 32, 2, "0+4:1:0 8+4:1:0");
        joining.mapLow(0, 4, 1, 0).gives(4);
        joining.is("0+12:1:0");
    }

    private static void noOtherPlace(Check check) {
        check.sentence("No other place is tried then.");
        Space space = new Space(check, 32, 2, "4+2:1:0 10+2:2:0");
        // Further up, at 12, it would join.
        space.mapLow(0, 2, 2, 0).gives(RegionMap.FULL);
        space.mapLow(6, 2, 2, 0).gives(RegionMap.FULL);
        space.is("4+2:1:0 10+2:2:0");
        space.mapLow(11, 2, 2, 0).gives(12);
        space.is("4+2:1:0 10+4:2:0");
        // Two pages up in the same gap it would join too.
        space.mapLow(0, 2, 1, 0).gives(RegionMap.FULL);
        space.mapLow(2, 2, 1, 0).gives(2);
    }

    private static void fillsAndAnswersThePlace(Check check) {
        check.sentence("Else it fills (t, len) with prot and backing and answers t.");
        Space space = new Space(check, 32, 8, "0+4:1:0");
        space.mapLow(0, 5, 6, 2043).gives(4);
        space.is("0+4:1:0 4+5:6:2043");
        space.mapLow(2, 1, 0, 0).gives(9);
        space.mapLow(31, 1, 7, 8191).gives(31);
        space.is("0+4:1:0 4+5:6:2043 9+1:0:0 31+1:7:8191");
        Space all = new Space(check, 256, 2);
        all.mapLow(0, 256, 7, 1024).gives(0);
        all.is("0+256:7:1024");
    }

    private static void pagesOutside(Check check) {
        check.sentence("Pages outside (t, len) do not change.");
        Space space = new Space(check, 16, 8, "0+3:1:2040 5+4:2:0 13+3:0:8189");
        space.mapLow(0, 3, 7, 1024).gives(9);
        space.is("0+3:1:2040 5+4:2:0 9+3:7:1024 13+3:0:8189");
        space.mapLow(1, 2, 7, 0).gives(3);
        space.is("0+3:1:2040 3+2:7:0 5+4:2:0 9+3:7:1024 13+3:0:8189");
    }

    private static void inThisOrder(Check check) {
        check.sentence("In this order:");
        Space space = new Space(check, 32, 2, "0+20:1:0 22+10:2:0");
        // BAD and NO_ROOM.
        space.mapLow(0, 3, 8, 0).gives(RegionMap.BAD);
        space.mapLow(0, 3, 1, 1023).gives(RegionMap.BAD);
        space.mapLow(0, 3, 1, 2046).gives(RegionMap.BAD);
        space.mapLow(31, 2, 8, 0).gives(RegionMap.BAD);
        space.mapLow(31, 2, 1, 2047).gives(RegionMap.BAD);
        space.mapLow(31, 33, 1, 0).gives(RegionMap.BAD);
        space.mapLow(32, 32, 1, 0).gives(RegionMap.BAD);
        // BAD and FULL.
        space.mapLow(0, 1, 8, 0).gives(RegionMap.BAD);
        space.mapLow(0, 1, 3, 8192).gives(RegionMap.BAD);
        space.mapLow(-1, 1, 3, 0).gives(RegionMap.BAD);
        // With no place at all there is nothing to fill, so the limit is not asked.
        space.mapLow(0, 3, 3, 0).gives(RegionMap.NO_ROOM);
        space.mapLow(21, 2, 3, 0).gives(RegionMap.NO_ROOM);
        space.mapLow(0, 2, 3, 0).gives(RegionMap.FULL);
        space.is("0+20:1:0 22+10:2:0");
    }
}
