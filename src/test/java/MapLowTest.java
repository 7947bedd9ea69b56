/** Promise 4: mapLow. */
public final class MapLowTest {
    private static final int MOST = Integer.MAX_VALUE;
    private static final int LEAST = Integer.MIN_VALUE;

    public static void main(String[] args) {
        Check check = new Check();
        takesTheLowestPlace(check);
        noRoom(check);
        fullTriesNoOtherPlace(check);
        wrongArguments(check);
        check.end();
    }

    private static void takesTheLowestPlace(Check check) {
        RegionMap map = new RegionMap(32, 8);
        map.mapNew(2, 2, 1, 0);
        map.mapNew(8, 2, 2, 0);
        check.due("a gap too short is passed over", map.mapLow(0, 3, 3, 1030), 4);
        check.map("after the first", map, "2+2:1:0 4+3:3:1030 8+2:2:0");
        check.due("free pages below from do not count", map.mapLow(1, 2, 4, 0), 10);
        check.due("from on a free page", map.mapLow(1, 1, 5, 0), 1);
        check.due("from on a mapped page", map.mapLow(3, 1, 6, 0), 7);
        check.due("from inside a free run", map.mapLow(20, 12, 7, 2048), 20);
        check.map("after all", map,
            "1+1:5:0 2+2:1:0 4+3:3:1030 7+1:6:0 8+2:2:0 10+2:4:0 20+12:7:2048");
        check.due("joining what is below", map.mapLow(9, 8, 4, 0), 12);
        check.map("after joining", map,
            "1+1:5:0 2+2:1:0 4+3:3:1030 7+1:6:0 8+2:2:0 10+10:4:0 20+12:7:2048");
    }

    private static void noRoom(Check check) {
        RegionMap map = new RegionMap(32, 2);
        check.due("past the end", map.mapLow(31, 2, 0, 0), RegionMap.NO_ROOM);
        check.due("all but the first page", map.mapLow(1, 32, 0, 0), RegionMap.NO_ROOM);
        check.due("all", map.mapLow(0, 32, 0, 0), 0);
        check.due("nothing left", map.mapLow(0, 1, 0, 0), RegionMap.NO_ROOM);
        map.unmap(10, 2);
        check.due("too long for the gap", map.mapLow(0, 3, 0, 0), RegionMap.NO_ROOM);
        check.due("NO_ROOM before FULL", map.mapLow(11, 2, 3, 0), RegionMap.NO_ROOM);
        check.map("after NO_ROOM", map, "0+10:0:0 12+20:0:0");
    }

    private static void fullTriesNoOtherPlace(Check check) {
        RegionMap map = new RegionMap(32, 2);
        map.mapNew(4, 2, 1, 0);
        map.mapNew(10, 2, 2, 0);
        check.due("a place further up would join", map.mapLow(0, 2, 2, 0), RegionMap.FULL);
        check.map("after FULL", map, "4+2:1:0 10+2:2:0");
        check.due("from there it joins", map.mapLow(11, 2, 2, 0), 12);
        check.due("joining at the limit", map.mapLow(0, 4, 1, 0), 0);
        check.map("after joining", map, "0+6:1:0 10+4:2:0");
    }

    private static void wrongArguments(Check check) {
        RegionMap map = new RegionMap(32, 4);
        map.mapNew(0, 32, 0, 0);
        int[][] wrong = {
            {-1, 1, 0, 0}, {LEAST, 1, 0, 0}, {32, 1, 0, 0}, {MOST, 1, 0, 0}, {MOST, MOST, 0, 0},
            {0, 0, 0, 0}, {0, -1, 0, 0}, {0, LEAST, 0, 0}, {0, 33, 0, 0}, {0, MOST, 0, 0},
            {0, MOST, 0, 1025}, {0, 1, -1, 0}, {0, 1, 8, 0}, {0, 1, 0, 1}, {0, 1, 0, 1023},
            {0, 1, 0, -1}, {0, 1, 0, 8192}, {0, 2, 0, 2047}, {31, 2, 8, 0}, {31, 2, 0, 2047},
        };
        for (int[] a : wrong) {
            String call = "mapLow(" + a[0] + ", " + a[1] + ", " + a[2] + ", " + a[3] + ")";
            check.due(call, map.mapLow(a[0], a[1], a[2], a[3]), RegionMap.BAD);
        }
        check.map("after wrong arguments", map, "0+32:0:0");
    }
}
