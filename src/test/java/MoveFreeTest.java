/** Promise 9: moveFree. */
public final class MoveFreeTest {
    public static void main(String[] args) {
        Check check = new Check("Promise 9: moveFree");
        lowestPlace(check);
        wrongArguments(check);
        holes(check);
        placeOfFindLow(check);
        sourceIsNotFree(check);
        noRoom(check);
        tooManyRegions(check);
        exactlyAllRegions(check);
        noOtherPlace(check);
        answersThePlace(check);
        pagesOutside(check);
        inThisOrder(check);
        check.end();
    }

    private static void lowestPlace(Check check) {
        check.sentence("`moveFree(start, len, from)` moves a range to the lowest free place not below `from`.");
        Space space = new Space(check, 32, 8, "3+4:3:1024 7+2:1:0");
        space.moveFree(3, 4, 0).gives(9);
        space.is("7+2:1:0 9+4:3:1024");
        space.moveFree(7, 6, 0).gives(0);
        space.is("0+2:1:0 2+4:3:1024");
        space.moveFree(1, 2, 10).gives(10);
        space.is("0+1:1:0 3+3:3:1025 10+1:1:0 11+1:3:1024");
        space.moveFree(0, 1, 3).gives(6);
        space.is("3+3:3:1025 6+1:1:0 10+1:1:0 11+1:3:1024");
        space.moveFree(6, 1, 9).gives(9);
        space.is("3+3:3:1025 9+2:1:0 11+1:3:1024");
        space.moveFree(3, 3, 29).gives(29);
        space.is("9+2:1:0 11+1:3:1024 29+3:3:1025");
    }

    private static void wrongArguments(Check check) {
        check.sentence("`BAD` if (start, len) is not proper, from < 0 or from >= P.");
        for (int pages : new int[] {16, 32, 256}) {
            Space half = new Space(check, pages, 2, "0+" + pages / 2 + ":1:0");
            Space full = new Space(check, pages, 2, "0+" + pages + ":1:0");
            Space empty = new Space(check, pages, 2);
            for (Space space : new Space[] {half, full, empty}) {
                for (int[] range : Edges.improperRanges(pages)) {
                    space.moveFree(range[0], range[1], 0).gives(RegionMap.BAD);
                    space.moveFree(range[0], range[1], pages - 1).gives(RegionMap.BAD);
                }
                for (int from : new int[] {-1, pages, pages + 1, 256, 65536, -65536, Edges.LEAST, Edges.LEAST + 1,
                        Edges.MOST - 1, Edges.MOST}) {
                    space.moveFree(0, 1, from).gives(RegionMap.BAD);
                    space.moveFree(0, pages / 2, from).gives(RegionMap.BAD);
                }
            }
            half.moveFree(0, 1, pages - 1).gives(pages - 1);
            half.moveFree(pages - 1, 1, 0).gives(0);
            half.moveFree(0, pages / 2, 0).gives(pages / 2);
            half.is(pages / 2 + "+" + pages / 2 + ":1:0");
        }
    }

    private static void holes(Check check) {
        check.sentence("`HOLE` if any page of (start, len) is free.");
        Space empty = new Space(check, 32, 2);
        empty.moveFree(0, 1, 0).gives(RegionMap.HOLE);
        empty.moveFree(31, 1, 31).gives(RegionMap.HOLE);
        for (int page = 10; page < 15; page++) {
            Space space = new Space(check, 32, 8, "8+10:3:0");
            space.unmap(page, 1).gives(1);
            space.moveFree(10, 5, 0).gives(RegionMap.HOLE);
            space.moveFree(page, 1, 0).gives(RegionMap.HOLE);
        }
        Space space = new Space(check, 32, 8, "10+5:0:0");
        space.moveFree(9, 2, 20).gives(RegionMap.HOLE);
        space.moveFree(14, 2, 20).gives(RegionMap.HOLE);
        space.moveFree(10, 5, 20).gives(20);
        space.is("20+5:0:0");
    }

    private static void placeOfFindLow(Check check) {
        check.sentence("Let t be the answer `findLow(from, len)` gives now, on the map before the move, so the"
            + " pages of (start, len) are not free for it.");
        for (int start = 4; start < 9; start++) {
            for (int len = 1; start + len <= 9; len++) {
                for (int from = 0; from < 16; from++) {
                    Space space = new Space(check, 16, 16, "1+1:0:0 4+5:1:0 11+1:2:0");
                    int place = space.findLow(from, len).got();
                    space.moveFree(start, len, from).gives(place);
                }
            }
        }
    }

    private static void sourceIsNotFree(Check check) {
        check.sentence("Let t be the answer `findLow(from, len)` gives now, on the map before the move, so the"
            + " pages of (start, len) are not free for it.");
        Space space = new Space(check, 16, 2, "4+4:3:1024");
        // With its own pages it could move down by one, or up by one, or stay.
        space.moveFree(4, 4, 3).gives(8);
        space.is("8+4:3:1024");
        space.moveFree(8, 4, 8).gives(12);
        space.moveFree(12, 4, 12).gives(RegionMap.NO_ROOM);
        space.moveFree(12, 4, 9).gives(RegionMap.NO_ROOM);
        space.moveFree(12, 4, 8).gives(8);
        space.is("8+4:3:1024");
        space.moveFree(8, 4, 5).gives(12);
    }

    private static void noRoom(Check check) {
        check.sentence("`NO_ROOM` if t is `NO_ROOM`.");
        Space space = new Space(check, 16, 2, "4+8:3:0");
        space.moveFree(4, 5, 0).gives(RegionMap.NO_ROOM);
        space.moveFree(4, 8, 0).gives(RegionMap.NO_ROOM);
        space.moveFree(4, 4, 13).gives(RegionMap.NO_ROOM);
        space.moveFree(4, 2, 15).gives(RegionMap.NO_ROOM);
        space.is("4+8:3:0");
        space.moveFree(4, 4, 12).gives(12);
        Space full = new Space(check, 16, 2, "0+16:0:0");
        for (int page = 0; page < 16; page++) {
            full.moveFree(page, 1, 0).gives(RegionMap.NO_ROOM);
        }
        full.moveFree(0, 16, 0).gives(RegionMap.NO_ROOM);
        Space onePage = new Space(check, 16, 2, "0+15:0:0");
        onePage.moveFree(0, 2, 0).gives(RegionMap.NO_ROOM);
        onePage.moveFree(0, 1, 0).gives(15);
        onePage.is("1+15:0:0");
    }

    private static void tooManyRegions(Check check) {
        check.sentence("`FULL` if `move(start, len, t)` would be `FULL`.");
        Space one = new Space(check, 32, 2, "4+8:3:0");
        one.moveFree(6, 2, 0).gives(RegionMap.FULL);
        one.moveFree(6, 2, 20).gives(RegionMap.FULL);
        Space two = new Space(check, 32, 2, "4+4:1:0 20+4:1:0");
        two.moveFree(4, 1, 0).gives(RegionMap.FULL);
        two.moveFree(7, 1, 0).gives(RegionMap.FULL);
        two.moveFree(22, 1, 9).gives(RegionMap.FULL);
        two.is("4+4:1:0 20+4:1:0");
        Space many = new Space(check, 128, 32);
        for (int k = 0; k < 32; k++) {
            many.mapNew(3 * k, 2, 3, 0).gives(0);
        }
        many.moveFree(0, 1, 127).gives(RegionMap.FULL);
        many.moveFree(94, 1, 96).gives(RegionMap.FULL);
        many.regionCount().gives(32);
    }

    private static void exactlyAllRegions(Check check) {
        check.sentence("`FULL` if `move(start, len, t)` would be `FULL`.");
        Space space = new Space(check, 32, 2, "4+4:1:0 20+4:1:0");
        space.moveFree(4, 4, 0).gives(0);
        space.is("0+4:1:0 20+4:1:0");
        space.moveFree(20, 4, 10).gives(10);
        space.moveFree(0, 1, 14).gives(14);
        space.is("1+3:1:0 10+5:1:0");
        space.moveFree(1, 3, 7).gives(7);
        space.is("7+8:1:0");
        space.moveFree(7, 2, 20).gives(20);
        space.is("9+6:1:0 20+2:1:0");
    }

    private static void noOtherPlace(Check check) {
        check.sentence("No other place is tried then.");
        Space space = new Space(check, 32, 2, "0+4:1:1024 20+4:1:1025");
        // Further up, at 19, it would join.
        space.moveFree(0, 1, 0).gives(RegionMap.FULL);
        space.moveFree(0, 1, 18).gives(RegionMap.FULL);
        space.is("0+4:1:1024 20+4:1:1025");
        space.moveFree(0, 1, 19).gives(19);
        space.is("1+3:1:1025 19+5:1:1024");
    }

    private static void answersThePlace(Check check) {
        check.sentence("Else it does what `move(start, len, t)` does and answers t (not the answer of that move).");
        Space space = new Space(check, 32, 8, "2+1:0:0 3+1:7:8191 4+2:5:2046 6+1:0:1024");
        space.moveFree(2, 5, 1).gives(7);
        space.is("7+1:0:0 8+1:7:8191 9+2:5:2046 11+1:0:1024");
        for (int page = 2; page < 7; page++) {
            space.protOf(page).gives(RegionMap.FREE);
            space.backingOf(page).gives(RegionMap.FREE);
        }
        space.moveFree(7, 5, 0).gives(0);
        space.is("0+1:0:0 1+1:7:8191 2+2:5:2046 4+1:0:1024");
        space.moveFree(4, 1, 31).gives(31);
        space.is("0+1:0:0 1+1:7:8191 2+2:5:2046 31+1:0:1024");
        Space large = new Space(check, 256, 2, "0+128:6:1030");
        large.moveFree(0, 128, 0).gives(128);
        large.is("128+128:6:1030");
    }

    private static void pagesOutside(Check check) {
        check.sentence("Pages outside (start, len) and (t, len) do not change.");
        Space space = new Space(check, 16, 8, "0+3:1:2030 3+4:2:0 9+2:0:8180 13+3:5:1024");
        space.moveFree(3, 2, 8).gives(11);
        space.is("0+3:1:2030 5+2:2:0 9+2:0:8180 11+2:2:0 13+3:5:1024");
        space.moveFree(1, 2, 0).gives(3);
        space.is("0+1:1:2030 3+2:1:2031 5+2:2:0 9+2:0:8180 11+2:2:0 13+3:5:1024");
    }

    private static void inThisOrder(Check check) {
        check.sentence("In this order:");
        Space space = new Space(check, 16, 2, "2+6:3:0 10+4:1:0");
        // BAD and HOLE.
        space.moveFree(0, 2, 16).gives(RegionMap.BAD);
        space.moveFree(0, 2, -1).gives(RegionMap.BAD);
        space.moveFree(15, 2, 0).gives(RegionMap.BAD);
        space.moveFree(-1, 2, 0).gives(RegionMap.BAD);
        // BAD and NO_ROOM.
        space.moveFree(2, 6, 16).gives(RegionMap.BAD);
        space.moveFree(2, 6, -1).gives(RegionMap.BAD);
        space.moveFree(10, 17, 15).gives(RegionMap.BAD);
        // BAD and FULL.
        space.moveFree(4, 1, 16).gives(RegionMap.BAD);
        space.moveFree(4, 1, Edges.MOST).gives(RegionMap.BAD);
        space.moveFree(4, 1, Edges.LEAST).gives(RegionMap.BAD);
        // HOLE and NO_ROOM.
        space.moveFree(1, 3, 0).gives(RegionMap.HOLE);
        space.moveFree(2, 8, 0).gives(RegionMap.HOLE);
        space.moveFree(0, 2, 15).gives(RegionMap.HOLE);
        // HOLE and FULL: there is a place for two pages.
        space.moveFree(7, 2, 14).gives(RegionMap.HOLE);
        space.moveFree(1, 2, 14).gives(RegionMap.HOLE);
        // With no place at all there is nowhere to move to, so the limit is not asked.
        space.moveFree(3, 3, 0).gives(RegionMap.NO_ROOM);
        space.moveFree(4, 2, 15).gives(RegionMap.NO_ROOM);
        space.moveFree(4, 2, 0).gives(RegionMap.FULL);
        // Of BAD, HOLE and NO_ROOM, and of HOLE, NO_ROOM and FULL, the first.
        space.moveFree(1, 8, 16).gives(RegionMap.BAD);
        space.moveFree(7, 3, 15).gives(RegionMap.HOLE);
        space.is("2+6:3:0 10+4:1:0");
    }
}
