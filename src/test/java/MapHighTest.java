/** Promise 5: mapHigh. */
public final class MapHighTest {
    private static final int MOST = Integer.MAX_VALUE;
    private static final int LEAST = Integer.MIN_VALUE;

    public static void main(String[] args) {
        Check check = new Check();
        takesTheHighestPlace(check);
        noRoom(check);
        fullTriesNoOtherPlace(check);
        wrongArguments(check);
        check.end();
    }

    private static void takesTheHighestPlace(Check check) {
        RegionMap map = new RegionMap(32, 8);
        map.mapNew(28, 2, 1, 0);
        map.mapNew(22, 2, 2, 0);
        check.due("a gap too short is passed over", map.mapHigh(32, 3, 3, 1030), 25);
        check.map("after the first", map, "22+2:2:0 25+3:3:1030 28+2:1:0");
        check.due("page to is never used", map.mapHigh(31, 1, 4, 0), 30);
        check.due("to behind a mapped page", map.mapHigh(28, 1, 5, 0), 24);
        check.due("to inside a free run", map.mapHigh(12, 12, 7, 2048), 0);
        check.map("after all", map,
            "0+12:7:2048 22+2:2:0 24+1:5:0 25+3:3:1030 28+2:1:0 30+1:4:0");
        check.due("joining what is above", map.mapHigh(24, 10, 2, 0), 12);
        check.map("after joining", map,
            "0+12:7:2048 12+12:2:0 24+1:5:0 25+3:3:1030 28+2:1:0 30+1:4:0");
        check.due("the last page", map.mapHigh(32, 1, 0, 8191), 31);
    }

    private static void noRoom(Check check) {
        RegionMap map = new RegionMap(32, 2);
        check.due("longer than to", map.mapHigh(1, 2, 0, 0), RegionMap.NO_ROOM);
        check.due("all but the last page", map.mapHigh(31, 32, 0, 0), RegionMap.NO_ROOM);
        check.due("all", map.mapHigh(32, 32, 0, 0), 0);
        check.due("nothing left", map.mapHigh(32, 1, 0, 0), RegionMap.NO_ROOM);
        map.unmap(10, 2);
        check.due("too long for the gap", map.mapHigh(32, 3, 0, 0), RegionMap.NO_ROOM);
        check.due("NO_ROOM before FULL", map.mapHigh(11, 2, 3, 0), RegionMap.NO_ROOM);
        check.map("after NO_ROOM", map, "0+10:0:0 12+20:0:0");
    }

    private static void fullTriesNoOtherPlace(Check check) {
        RegionMap map = new RegionMap(32, 2);
        map.mapNew(4, 2, 1, 0);
        map.mapNew(10, 2, 2, 0);
        check.due("a place further down would join", map.mapHigh(32, 2, 1, 0), RegionMap.FULL);
        check.map("after FULL", map, "4+2:1:0 10+2:2:0");
        check.due("up to there it joins", map.mapHigh(5, 2, 1, 0), 2);
        check.due("joining at the limit", map.mapHigh(32, 20, 2, 0), 12);
        check.map("after joining", map, "2+4:1:0 10+22:2:0");
    }

    private static void wrongArguments(Check check) {
        RegionMap map = new RegionMap(32, 4);
        map.mapNew(0, 32, 0, 0);
        int[][] wrong = {
            {0, 1, 0, 0}, {-1, 1, 0, 0}, {LEAST, 1, 0, 0}, {33, 1, 0, 0}, {MOST, 1, 0, 0},
            {MOST, MOST, 0, 0}, {32, 0, 0, 0}, {32, -1, 0, 0}, {32, LEAST, 0, 0}, {32, 33, 0, 0},
            {32, MOST, 0, 0}, {32, MOST, 0, 1025}, {32, 1, -1, 0}, {32, 1, 8, 0}, {32, 1, 0, 1},
            {32, 1, 0, 1023}, {32, 1, 0, -1}, {32, 1, 0, 8192}, {32, 2, 0, 2047},
            {1, 2, 8, 0}, {1, 2, 0, 2047},
        };
        for (int[] a : wrong) {
            String call = "mapHigh(" + a[0] + ", " + a[1] + ", " + a[2] + ", " + a[3] + ")";
            check.due(call, map.mapHigh(a[0], a[1], a[2], a[3]), RegionMap.BAD);
        }
        check.map("after wrong arguments", map, "0+32:0:0");
    }
}
