/** Promise 16: findHigh. */
public final class FindHighTest {
    public static void main(String[] args) {
        Check check = new Check("Promise 16: findHigh");
        wrongArguments(check);
        greatestPlace(check);
        everyBoundAndLength(check);
        noPlace(check);
        pagesFromToUpwards(check);
        longerThanTo(check);
        nothingChanges(check);
        check.end();
    }

    private static void wrongArguments(Check check) {
        check.sentence("`findHigh(to, len)` answers `BAD` if to < 1, to > P, len < 1 or len > P.");
        for (int pages : new int[] {16, 32, 256}) {
            int[] wrong = {0, -1, pages + 1, 257, 65537, -65535, Edges.LEAST, Edges.LEAST + 1,
                Edges.MOST - 1, Edges.MOST};
            Space empty = new Space(check, pages, 2);
            Space full = new Space(check, pages, 2, "0+" + pages + ":1:0");
            for (Space space : new Space[] {empty, full}) {
                for (int one : wrong) {
                    space.findHigh(one, 1).gives(RegionMap.BAD);
                    space.findHigh(one, pages).gives(RegionMap.BAD);
                    space.findHigh(1, one).gives(RegionMap.BAD);
                    space.findHigh(pages, one).gives(RegionMap.BAD);
                    for (int other : wrong) {
                        space.findHigh(one, other).gives(RegionMap.BAD);
                    }
                }
            }
            empty.findHigh(1, 1).gives(0);
            empty.findHigh(pages, 1).gives(pages - 1);
            empty.findHigh(pages, pages).gives(0);
        }
    }

    private static void greatestPlace(Check check) {
        check.sentence("Else it answers the greatest t >= 0 such that t + len <= to and all pages of (t, len)"
            + " are free; `NO_ROOM` if there is none.");
        Space space = new Space(check, 32, 8, "3+2:0:0 10+6:7:8000 20+10:1:0");
        space.findHigh(32, 1).gives(31);
        space.findHigh(32, 2).gives(30);
        space.findHigh(32, 3).gives(17);
        space.findHigh(32, 4).gives(16);
        space.findHigh(32, 5).gives(5);
        space.findHigh(20, 4).gives(16);
        space.findHigh(19, 4).gives(6);
        space.findHigh(10, 5).gives(5);
        space.findHigh(9, 4).gives(5);
        space.findHigh(9, 5).gives(RegionMap.NO_ROOM);
        space.findHigh(8, 3).gives(5);
        space.findHigh(7, 3).gives(0);
        space.findHigh(1, 1).gives(0);
        Space protectionZero = new Space(check, 16, 2, "8+8:0:0");
        protectionZero.findHigh(16, 1).gives(7);
        protectionZero.findHigh(16, 8).gives(0);
    }

    /** Against a search that looks at each place by itself. */
    private static void everyBoundAndLength(Check check) {
        check.sentence("Else it answers the greatest t >= 0 such that t + len <= to and all pages of (t, len)"
            + " are free; `NO_ROOM` if there is none.");
        boolean[] mapped = new boolean[40];
        Space space = new Space(check, 40, 16,
            "1+1:1:0 5+2:5:0 9+1:1:0 12+8:4:0 26+1:2:0 28+1:4:0 38+1:6:0");
        for (int page : new int[] {1, 5, 6, 9, 12, 13, 14, 15, 16, 17, 18, 19, 26, 28, 38}) {
            mapped[page] = true;
        }
        for (int to = 1; to <= 40; to++) {
            for (int len = 1; len <= 40; len++) {
                int want = RegionMap.NO_ROOM;
                for (int t = 0; t + len <= to; t++) {
                    want = isFree(mapped, t, len) ? t : want;
                }
                space.findHigh(to, len).gives(want);
            }
        }
    }

    private static boolean isFree(boolean[] mapped, int start, int len) {
        for (int page = start; page < start + len; page++) {
            if (mapped[page]) {
                return false;
            }
        }
        return true;
    }

    private static void noPlace(Check check) {
        check.sentence("Else it answers the greatest t >= 0 such that t + len <= to and all pages of (t, len)"
            + " are free; `NO_ROOM` if there is none.");
        Space full = new Space(check, 32, 2, "0+32:0:0");
        for (int to = 1; to <= 32; to++) {
            full.findHigh(to, 1).gives(RegionMap.NO_ROOM);
        }
        full.findHigh(32, 32).gives(RegionMap.NO_ROOM);
        Space gap = new Space(check, 32, 2, "0+10:0:0 12+20:0:0");
        gap.findHigh(32, 2).gives(10);
        gap.findHigh(32, 3).gives(RegionMap.NO_ROOM);
        gap.findHigh(10, 1).gives(RegionMap.NO_ROOM);
        Space first = new Space(check, 32, 2, "1+31:0:0");
        first.findHigh(32, 1).gives(0);
        first.findHigh(32, 2).gives(RegionMap.NO_ROOM);
        Space last = new Space(check, 32, 2, "0+31:0:0");
        last.findHigh(32, 1).gives(31);
        last.findHigh(32, 2).gives(RegionMap.NO_ROOM);
        // The two ends of the space are not neighbours.
        Space ends = new Space(check, 32, 2, "1+30:0:0");
        ends.findHigh(32, 2).gives(RegionMap.NO_ROOM);
        ends.findHigh(31, 1).gives(0);
    }

    private static void pagesFromToUpwards(Check check) {
        check.sentence("Page `to` itself is never part of the place found, and free pages from `to` upwards do"
            + " not count.");
        Space space = new Space(check, 32, 8, "8+4:0:0");
        space.findHigh(14, 2).gives(12);
        space.findHigh(13, 2).gives(6);
        space.findHigh(13, 1).gives(12);
        space.findHigh(12, 1).gives(7);
        space.findHigh(12, 9).gives(RegionMap.NO_ROOM);
        space.findHigh(9, 8).gives(0);
        space.findHigh(8, 8).gives(0);
        space.findHigh(7, 8).gives(RegionMap.NO_ROOM);
        space.findHigh(7, 7).gives(0);
        Space below = new Space(check, 32, 8, "0+24:0:0");
        below.findHigh(32, 8).gives(24);
        below.findHigh(31, 8).gives(RegionMap.NO_ROOM);
        below.findHigh(25, 1).gives(24);
        below.findHigh(24, 1).gives(RegionMap.NO_ROOM);
        for (int to = 1; to <= 32; to++) {
            new Space(check, 32, 2).findHigh(to, 1).gives(to - 1);
        }
    }

    private static void longerThanTo(Check check) {
        check.sentence("If len > to (with the other conditions met) the answer is `NO_ROOM`, not `BAD`.");
        for (int pages : new int[] {16, 17, 256}) {
            Space empty = new Space(check, pages, 2);
            Space full = new Space(check, pages, 2, "0+" + pages + ":1:0");
            for (int to = 1; to < pages; to++) {
                empty.findHigh(to, to).gives(0);
                empty.findHigh(to, to + 1).gives(RegionMap.NO_ROOM);
                full.findHigh(to, to + 1).gives(RegionMap.NO_ROOM);
            }
            empty.findHigh(1, pages).gives(RegionMap.NO_ROOM);
            full.findHigh(1, pages).gives(RegionMap.NO_ROOM);
        }
    }

    private static void nothingChanges(Check check) {
        check.sentence("Nothing changes.");
        Space space = new Space(check, 16, 2, "1+2:0:0 15+1:7:8191");
        for (int to = 0; to <= 17; to++) {
            for (int len = 0; len <= 17; len++) {
                int first = space.findHigh(to, len).got();
                space.findHigh(to, len).gives(first);
            }
        }
        space.is("1+2:0:0 15+1:7:8191");
    }
}
