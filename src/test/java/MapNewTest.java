/** Promise 2: mapNew. */
public final class MapNewTest {
    private static final int MOST = Integer.MAX_VALUE;
    private static final int LEAST = Integer.MIN_VALUE;

    public static void main(String[] args) {
        Check check = new Check();
        fillsAndJoins(check);
        backingsContinueWithinOneObject(check);
        takenWhateverTheAttributes(check);
        fullLeavesNoTrace(check);
        onlyTheFinalMapCounts(check);
        wrongArguments(check);
        refusalsInOrder(check);
        check.end();
    }

    private static void fillsAndJoins(Check check) {
        RegionMap map = new RegionMap(32, 8);
        check.due("mapNew(4, 4, 3, 1034)", map.mapNew(4, 4, 3, 1034), 0);
        check.map("after one fill", map, "4+4:3:1034");
        check.due("mapNew(12, 4, 3, 1042)", map.mapNew(12, 4, 3, 1042), 0);
        check.map("after two fills", map, "4+4:3:1034 12+4:3:1042");
        check.due("mapNew(8, 4, 3, 1038)", map.mapNew(8, 4, 3, 1038), 0);
        check.map("joined on both sides", map, "4+12:3:1034");
        check.due("regionCount joined", map.regionCount(), 1);
        check.due("mapNew(16, 2, 2, 1046)", map.mapNew(16, 2, 2, 1046), 0);
        check.due("another protection does not join", map.regionCount(), 2);
        check.due("mapNew(0, 2, 0, 0)", map.mapNew(0, 2, 0, 0), 0);
        check.due("mapNew(2, 2, 0, 0)", map.mapNew(2, 2, 0, 0), 0);
        check.due("mapNew(31, 1, 7, 8191)", map.mapNew(31, 1, 7, 8191), 0);
        check.map("with both ends used", map, "0+4:0:0 4+12:3:1034 16+2:2:1046 31+1:7:8191");
        check.due("anonymous does not join an object", map.regionCount(), 4);
    }

    private static void backingsContinueWithinOneObject(Check check) {
        RegionMap map = new RegionMap(32, 8);
        check.due("mapNew(0, 1, 1, 2047)", map.mapNew(0, 1, 1, 2047), 0);
        check.due("mapNew(1, 1, 1, 2048)", map.mapNew(1, 1, 1, 2048), 0);
        check.due("2047 then 2048", map.regionCount(), 2);
        check.due("mapNew(2, 1, 1, 2048)", map.mapNew(2, 1, 1, 2048), 0);
        check.due("the same backing twice", map.regionCount(), 3);
        check.due("mapNew(3, 1, 1, 2050)", map.mapNew(3, 1, 1, 2050), 0);
        check.due("a backing left out", map.regionCount(), 4);
        check.due("mapNew(4, 1, 1, 2049)", map.mapNew(4, 1, 1, 2049), 0);
        check.due("backings going down", map.regionCount(), 5);
        check.due("mapNew(5, 1, 1, 2050)", map.mapNew(5, 1, 1, 2050), 0);
        check.due("backings going up", map.regionCount(), 5);
        check.due("mapNew(6, 1, 1, 0)", map.mapNew(6, 1, 1, 0), 0);
        check.due("anonymous behind an object", map.regionCount(), 6);
        check.due("mapNew(7, 1, 1, 1024)", map.mapNew(7, 1, 1, 1024), 0);
        check.due("an object behind anonymous", map.regionCount(), 7);
    }

    private static void takenWhateverTheAttributes(Check check) {
        RegionMap map = new RegionMap(32, 8);
        map.mapNew(10, 2, 0, 0);
        String before = Check.picture(map);
        check.due("the same range again", map.mapNew(10, 2, 0, 0), RegionMap.TAKEN);
        check.due("only its first page taken", map.mapNew(11, 5, 3, 1024), RegionMap.TAKEN);
        check.due("only its last page taken", map.mapNew(6, 5, 3, 1024), RegionMap.TAKEN);
        check.due("taken in its middle", map.mapNew(0, 32, 0, 0), RegionMap.TAKEN);
        check.map("after TAKEN", map, before);
        check.due("right before", map.mapNew(8, 2, 3, 1024), 0);
        check.due("right behind", map.mapNew(12, 2, 3, 1024), 0);
    }

    private static void fullLeavesNoTrace(Check check) {
        RegionMap map = new RegionMap(32, 2);
        map.mapNew(0, 2, 1, 0);
        check.due("exactly R regions", map.mapNew(4, 2, 1, 0), 0);
        check.due("R + 1 regions", map.mapNew(8, 2, 1, 0), RegionMap.FULL);
        check.map("after FULL", map, "0+2:1:0 4+2:1:0");
        check.due("beside, not joining", map.mapNew(6, 2, 2, 0), RegionMap.FULL);
        check.map("after FULL beside", map, "0+2:1:0 4+2:1:0");
    }

    private static void onlyTheFinalMapCounts(Check check) {
        RegionMap map = new RegionMap(32, 2);
        map.mapNew(0, 2, 1, 0);
        map.mapNew(4, 2, 1, 0);
        check.due("joining both at the limit", map.mapNew(2, 2, 1, 0), 0);
        check.map("after joining", map, "0+6:1:0");
        check.due("room for one more again", map.mapNew(8, 2, 1, 0), 0);
    }

    private static void wrongArguments(Check check) {
        RegionMap map = new RegionMap(32, 4);
        int[][] wrong = {
            {-1, 1, 0, 0}, {LEAST, 1, 0, 0}, {32, 1, 0, 0}, {31, 2, 0, 0}, {0, 33, 0, 0},
            {0, 0, 0, 0}, {5, -1, 0, 0}, {5, LEAST, 0, 0}, {MOST, 1, 0, 0}, {1, MOST, 0, 0},
            {MOST, MOST, 0, 0}, {LEAST, LEAST, 0, 0}, {-1, 2, 0, 0}, {LEAST, MOST, 0, 0},
            {0, 1, -1, 0}, {0, 1, 8, 0}, {0, 1, LEAST, 0}, {0, 1, MOST, 0},
            {0, 1, 0, -1}, {0, 1, 0, 1}, {0, 1, 0, 1023}, {0, 1, 0, 8192}, {0, 1, 0, LEAST},
            {0, 1, 0, MOST}, {0, 1, 0, -1024}, {0, 2, 0, 2047}, {0, 2, 0, 8191}, {0, 4, 0, 1024 + 1021},
            {0, MOST, 0, 2047},
        };
        for (int[] a : wrong) {
            String call = "mapNew(" + a[0] + ", " + a[1] + ", " + a[2] + ", " + a[3] + ")";
            check.due(call, map.mapNew(a[0], a[1], a[2], a[3]), RegionMap.BAD);
        }
        check.map("after wrong arguments", map, "");
        check.due("the whole space", map.mapNew(0, 32, 7, 8192 - 32), 0);
        check.map("after the whole space", map, "0+32:7:8160");
    }

    private static void refusalsInOrder(Check check) {
        RegionMap map = new RegionMap(32, 2);
        map.mapNew(0, 2, 1, 0);
        map.mapNew(4, 2, 2, 0);
        check.due("BAD before TAKEN", map.mapNew(0, 2, 8, 0), RegionMap.BAD);
        check.due("BAD before FULL", map.mapNew(10, 2, 1, 1023), RegionMap.BAD);
        check.due("TAKEN before FULL", map.mapNew(5, 9, 3, 0), RegionMap.TAKEN);
    }
}
