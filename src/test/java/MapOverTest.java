/** Promise 3: mapOver. */
public final class MapOverTest {
    private static final int MOST = Integer.MAX_VALUE;
    private static final int LEAST = Integer.MIN_VALUE;

    public static void main(String[] args) {
        Check check = new Check();
        countsWhatItReplaces(check);
        cutsAndJoins(check);
        fullLeavesNoTrace(check);
        wrongArguments(check);
        check.end();
    }

    private static void countsWhatItReplaces(Check check) {
        RegionMap map = new RegionMap(32, 8);
        check.due("over free pages", map.mapOver(4, 4, 0, 0), 0);
        check.due("over the same", map.mapOver(4, 4, 0, 0), 4);
        check.due("over a part", map.mapOver(6, 4, 0, 0), 2);
        check.map("after a part", map, "4+6:0:0");
        check.due("over a whole and free pages", map.mapOver(0, 32, 5, 1024), 6);
        check.map("after the whole space", map, "0+32:5:1024");
        check.due("over the whole space", map.mapOver(0, 32, 5, 0), 32);
        check.map("after the whole space again", map, "0+32:5:0");
    }

    private static void cutsAndJoins(Check check) {
        RegionMap map = new RegionMap(32, 8);
        map.mapOver(0, 16, 3, 1024);
        check.due("into the middle", map.mapOver(4, 4, 3, 2048), 4);
        check.map("cut in three", map, "0+4:3:1024 4+4:3:2048 8+8:3:1032");
        check.due("the old backing again", map.mapOver(4, 4, 3, 1028), 4);
        check.map("joined again", map, "0+16:3:1024");
        check.due("with another protection", map.mapOver(15, 3, 2, 1039), 1);
        check.map("cut at its end", map, "0+15:3:1024 15+3:2:1039");
        check.due("over several regions", map.mapOver(10, 10, 1, 0), 8);
        check.map("after several regions", map, "0+10:3:1024 10+10:1:0");
    }

    private static void fullLeavesNoTrace(Check check) {
        RegionMap map = new RegionMap(32, 2);
        map.mapOver(0, 8, 1, 0);
        check.due("three regions of one", map.mapOver(2, 2, 2, 0), RegionMap.FULL);
        check.map("after FULL", map, "0+8:1:0");
        check.due("exactly R", map.mapOver(6, 2, 2, 0), 2);
        check.due("R + 1", map.mapOver(10, 1, 2, 0), RegionMap.FULL);
        check.map("after FULL on free pages", map, "0+6:1:0 6+2:2:0");
        check.due("shifting the cut at the limit", map.mapOver(4, 2, 2, 0), 2);
        check.map("after shifting", map, "0+4:1:0 4+4:2:0");
        check.due("one in place of two, and free pages", map.mapOver(0, 12, 3, 0), 8);
        check.map("after all", map, "0+12:3:0");
    }

    private static void wrongArguments(Check check) {
        RegionMap map = new RegionMap(32, 2);
        map.mapOver(0, 2, 1, 0);
        map.mapOver(4, 2, 1, 0);
        String before = Check.picture(map);
        int[][] wrong = {
            {-1, 1, 0, 0}, {32, 1, 0, 0}, {31, 2, 0, 0}, {0, 33, 0, 0}, {0, 0, 0, 0}, {0, -1, 0, 0},
            {MOST, 1, 0, 0}, {1, MOST, 0, 0}, {MOST, MOST, 0, 0}, {LEAST, LEAST, 0, 0},
            {0, 1, -1, 0}, {0, 1, 8, 0}, {0, 1, 0, -1}, {0, 1, 0, 1}, {0, 1, 0, 1023},
            {0, 1, 0, 8192}, {0, 2, 0, 2047}, {0, 1, 0, LEAST}, {0, MOST, 0, 1025}, {10, 2, 9, 0},
        };
        for (int[] a : wrong) {
            String call = "mapOver(" + a[0] + ", " + a[1] + ", " + a[2] + ", " + a[3] + ")";
            check.due(call, map.mapOver(a[0], a[1], a[2], a[3]), RegionMap.BAD);
        }
        check.map("after wrong arguments", map, before);
    }
}
