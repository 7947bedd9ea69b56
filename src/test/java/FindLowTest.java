/** Promise 15: findLow. */
public final class FindLowTest {
    public static void main(String[] args) {
        Check check = new Check("Promise 15: findLow");
        wrongArguments(check);
        leastPlace(check);
        everyBoundAndLength(check);
        noPlace(check);
        whereFromLies(check);
        pastTheEnd(check);
        nothingChanges(check);
        check.end();
    }

    private static void wrongArguments(Check check) {
        check.sentence("`findLow(from, len)` answers `BAD` if from < 0, from >= P, len < 1 or len > P.");
        for (int pages : new int[] {16, 32, 256}) {
            int[] wrongFrom = {-1, pages, pages + 1, 256, 65536, -65536, Edges.LEAST, Edges.LEAST + 1,
                Edges.MOST - 1, Edges.MOST};
            int[] wrongLen = {0, -1, pages + 1, 257, 65537, -65535, Edges.LEAST, Edges.LEAST + 1,
                Edges.MOST - 1, Edges.MOST};
            Space empty = new Space(check, pages, 2);
            Space full = new Space(check, pages, 2, "0+" + pages + ":1:0");
            for (Space space : new Space[] {empty, full}) {
                for (int from : wrongFrom) {
                    space.findLow(from, 1).gives(RegionMap.BAD);
                    space.findLow(from, pages).gives(RegionMap.BAD);
                    for (int len : wrongLen) {
                        space.findLow(from, len).gives(RegionMap.BAD);
                    }
                }
                for (int len : wrongLen) {
                    space.findLow(0, len).gives(RegionMap.BAD);
                    space.findLow(pages - 1, len).gives(RegionMap.BAD);
                }
            }
            empty.findLow(0, 1).gives(0);
            empty.findLow(0, pages).gives(0);
            empty.findLow(pages - 1, 1).gives(pages - 1);
        }
    }

    private static void leastPlace(Check check) {
        check.sentence("Else it answers the least t >= from such that (t, len) is proper and all its pages are"
            + " free; `NO_ROOM` if there is none.");
        Space space = new Space(check, 32, 8, "3+2:0:0 10+6:7:8000 20+10:1:0");
        space.findLow(0, 1).gives(0);
        space.findLow(0, 3).gives(0);
        space.findLow(0, 4).gives(5);
        space.findLow(0, 5).gives(5);
        space.findLow(6, 4).gives(6);
        space.findLow(7, 4).gives(16);
        space.findLow(17, 2).gives(17);
        space.findLow(18, 2).gives(18);
        space.findLow(19, 2).gives(30);
        space.findLow(25, 2).gives(30);
        space.findLow(31, 1).gives(31);
        Space protectionZero = new Space(check, 16, 2, "0+8:0:0");
        protectionZero.findLow(0, 1).gives(8);
        protectionZero.findLow(0, 8).gives(8);
    }

    /** Against a search that looks at each place by itself. */
    private static void everyBoundAndLength(Check check) {
        check.sentence("Else it answers the least t >= from such that (t, len) is proper and all its pages are"
            + " free; `NO_ROOM` if there is none.");
        boolean[] mapped = new boolean[40];
        Space space = new Space(check, 40, 16,
            "1+1:1:0 5+2:5:0 9+1:1:0 12+8:4:0 26+1:2:0 28+1:4:0 38+1:6:0");
        for (int page : new int[] {1, 5, 6, 9, 12, 13, 14, 15, 16, 17, 18, 19, 26, 28, 38}) {
            mapped[page] = true;
        }
        for (int from = 0; from < 40; from++) {
            for (int len = 1; len <= 40; len++) {
                int want = RegionMap.NO_ROOM;
                for (int t = 40 - len; t >= from; t--) {
                    want = isFree(mapped, t, len) ? t : want;
                }
                space.findLow(from, len).gives(want);
            }
        }
    }

    private static boolean isFree(boolean[] mapped, int start, int len) {
        for (int page = start; page < start + len; page++) {
            if (mapped[page]) {
                return false;
            }
        }
        return true;
    }

    private static void noPlace(Check check) {
        check.sentence("Else it answers the least t >= from such that (t, len) is proper and all its pages are"
            + " free; `NO_ROOM` if there is none.");
        Space full = new Space(check, 32, 2, "0+32:0:0");
        for (int from = 0; from < 32; from++) {
            full.findLow(from, 1).gives(RegionMap.NO_ROOM);
        }
        full.findLow(0, 32).gives(RegionMap.NO_ROOM);
        Space gap = new Space(check, 32, 2, "0+10:0:0 12+20:0:0");
        gap.findLow(0, 2).gives(10);
        gap.findLow(0, 3).gives(RegionMap.NO_ROOM);
        gap.findLow(12, 1).gives(RegionMap.NO_ROOM);
        Space last = new Space(check, 32, 2, "0+31:0:0");
        last.findLow(0, 1).gives(31);
        last.findLow(0, 2).gives(RegionMap.NO_ROOM);
        Space first = new Space(check, 32, 2, "1+31:0:0");
        first.findLow(0, 1).gives(0);
        first.findLow(0, 2).gives(RegionMap.NO_ROOM);
        // The two ends of the space are not neighbours.
        Space ends = new Space(check, 32, 2, "1+30:0:0");
        ends.findLow(0, 2).gives(RegionMap.NO_ROOM);
        ends.findLow(31, 1).gives(31);
    }

    private static void whereFromLies(Check check) {
        check.sentence("`from` itself may lie inside a run of free pages or on a mapped page; free pages below"
            + " `from` do not count.");
        Space space = new Space(check, 32, 8, "8+4:0:0");
        space.findLow(3, 5).gives(3);
        space.findLow(3, 6).gives(12);
        space.findLow(4, 5).gives(12);
        space.findLow(7, 1).gives(7);
        space.findLow(7, 2).gives(12);
        space.findLow(8, 1).gives(12);
        space.findLow(9, 1).gives(12);
        space.findLow(11, 20).gives(12);
        space.findLow(12, 20).gives(12);
        space.findLow(13, 20).gives(RegionMap.NO_ROOM);
        Space above = new Space(check, 32, 8, "8+24:0:0");
        above.findLow(0, 8).gives(0);
        above.findLow(1, 8).gives(RegionMap.NO_ROOM);
        above.findLow(7, 1).gives(7);
        above.findLow(8, 1).gives(RegionMap.NO_ROOM);
        above.findLow(31, 1).gives(RegionMap.NO_ROOM);
    }

    private static void pastTheEnd(Check check) {
        check.sentence("If from + len > P (with the other conditions met) the answer is `NO_ROOM`, not `BAD`.");
        for (int pages : new int[] {16, 17, 256}) {
            Space empty = new Space(check, pages, 2);
            Space full = new Space(check, pages, 2, "0+" + pages + ":1:0");
            for (int from = 1; from < pages; from++) {
                empty.findLow(from, pages - from).gives(from);
                empty.findLow(from, pages - from + 1).gives(RegionMap.NO_ROOM);
                full.findLow(from, pages - from + 1).gives(RegionMap.NO_ROOM);
            }
            empty.findLow(pages - 1, pages).gives(RegionMap.NO_ROOM);
            full.findLow(pages - 1, pages).gives(RegionMap.NO_ROOM);
        }
    }

    private static void nothingChanges(Check check) {
        check.sentence("Nothing changes.");
        Space space = new Space(check, 16, 2, "1+2:0:0 15+1:7:8191");
        for (int from = -1; from <= 16; from++) {
            for (int len = 0; len <= 17; len++) {
                int first = space.findLow(from, len).got();
                space.findLow(from, len).gives(first);
            }
        }
        space.is("1+2:0:0 15+1:7:8191");
    }
}
