/** Promise 9: moveFree. */
public final class MoveFreeTest {
    private static final int MOST = Integer.MAX_VALUE;
    private static final int LEAST = Integer.MIN_VALUE;

    public static void main(String[] args) {
        Check check = new Check();
        movesToTheLowestPlace(check);
        holesAndNoRoom(check);
        fullTriesNoOtherPlace(check);
        wrongArguments(check);
        check.end();
    }

    private static void movesToTheLowestPlace(Check check) {
        RegionMap map = new RegionMap(32, 8);
        map.mapNew(3, 4, 3, 1024);
        map.mapNew(7, 2, 1, 0);
        check.due("the source is not free for it", map.moveFree(3, 4, 0), 9);
        check.map("after the first", map, "7+2:1:0 9+4:3:1024");
        check.due("a place below, of just its length", map.moveFree(7, 6, 0), 0);
        check.map("after the second", map, "0+2:1:0 2+4:3:1024");
        check.due("free pages below from do not count", map.moveFree(1, 2, 10), 10);
        check.map("after the third", map, "0+1:1:0 3+3:3:1025 10+1:1:0 11+1:3:1024");
        check.due("from on a mapped page", map.moveFree(0, 1, 3), 6);
        check.map("after the fourth", map, "3+3:3:1025 6+1:1:0 10+1:1:0 11+1:3:1024");
        check.due("the answer is the place, whatever it joins", map.moveFree(6, 1, 9), 9);
        check.map("after the fifth", map, "3+3:3:1025 9+2:1:0 11+1:3:1024");
        check.due("to the last pages", map.moveFree(3, 3, 29), 29);
    }

    private static void holesAndNoRoom(Check check) {
        RegionMap map = new RegionMap(16, 2);
        map.mapNew(4, 8, 3, 0);
        check.due("no gap of its length", map.moveFree(4, 5, 0), RegionMap.NO_ROOM);
        check.due("none from there on", map.moveFree(4, 4, 13), RegionMap.NO_ROOM);
        check.due("a hole", map.moveFree(3, 2, 0), RegionMap.HOLE);
        check.due("HOLE before NO_ROOM", map.moveFree(3, 5, 0), RegionMap.HOLE);
        check.due("a hole at its end", map.moveFree(11, 2, 15), RegionMap.HOLE);
        check.map("after the refusals", map, "4+8:3:0");
        map.mapNew(0, 4, 1, 0);
        check.due("NO_ROOM before FULL", map.moveFree(2, 5, 0), RegionMap.NO_ROOM);
        check.map("after NO_ROOM", map, "0+4:1:0 4+8:3:0");
        map.mapOver(0, 16, 0, 0);
        check.due("no free page", map.moveFree(0, 1, 0), RegionMap.NO_ROOM);
    }

    private static void fullTriesNoOtherPlace(Check check) {
        RegionMap map = new RegionMap(32, 2);
        map.mapNew(4, 4, 1, 1024);
        map.mapNew(20, 4, 1, 1025);
        check.due("exactly R", map.moveFree(4, 4, 0), 0);
        check.due("a place further up would join", map.moveFree(0, 1, 0), RegionMap.FULL);
        check.map("after FULL", map, "0+4:1:1024 20+4:1:1025");
        check.due("from there it joins", map.moveFree(0, 1, 19), 19);
        check.map("after joining", map, "1+3:1:1025 19+5:1:1024");
    }

    private static void wrongArguments(Check check) {
        RegionMap map = new RegionMap(32, 2);
        map.mapNew(0, 31, 1, 0);
        int[][] wrong = {
            {-1, 1, 0}, {LEAST, 1, 0}, {32, 1, 0}, {31, 2, 0}, {0, 33, 0}, {0, 0, 0}, {5, -1, 0},
            {MOST, 1, 0}, {1, MOST, 0}, {MOST, MOST, 0}, {LEAST, LEAST, 0},
            {0, 1, -1}, {0, 1, 32}, {0, 1, LEAST}, {0, 1, MOST}, {31, 1, 32}, {31, 1, -1},
            {0, 2, 32},
        };
        for (int[] a : wrong) {
            String call = "moveFree(" + a[0] + ", " + a[1] + ", " + a[2] + ")";
            check.due(call, map.moveFree(a[0], a[1], a[2]), RegionMap.BAD);
        }
        check.map("after wrong arguments", map, "0+31:1:0");
    }
}
