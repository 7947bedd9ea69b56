/** Promise 7: protect. */
public final class ProtectTest {
    private static final int MOST = Integer.MAX_VALUE;
    private static final int LEAST = Integer.MIN_VALUE;

    public static void main(String[] args) {
        Check check = new Check();
        changesAndCounts(check);
        holes(check);
        fullLeavesNoTrace(check);
        wrongArguments(check);
        check.end();
    }

    private static void changesAndCounts(Check check) {
        RegionMap map = new RegionMap(32, 8);
        map.mapNew(4, 16, 3, 1024);
        check.due("the same protection", map.protect(4, 16, 3), 0);
        check.map("after nothing", map, "4+16:3:1024");
        check.due("the middle", map.protect(8, 4, 0), 4);
        check.map("after the middle", map, "4+4:3:1024 8+4:0:1028 12+8:3:1032");
        check.due("some have it already", map.protect(6, 4, 0), 2);
        check.map("after some", map, "4+2:3:1024 6+6:0:1026 12+8:3:1032");
        check.due("joined again", map.protect(4, 16, 3), 6);
        check.map("after joining", map, "4+16:3:1024");
        map.mapNew(20, 4, 3, 0);
        check.due("over two regions", map.protect(18, 4, 7), 4);
        check.map("after two regions", map, "4+14:3:1024 18+2:7:1038 20+2:7:0 22+2:3:0");
    }

    private static void holes(Check check) {
        RegionMap map = new RegionMap(32, 2);
        check.due("a free page", map.protect(0, 1, 0), RegionMap.HOLE);
        map.mapNew(4, 4, 3, 0);
        map.mapNew(10, 4, 3, 0);
        String before = Check.picture(map);
        check.due("a free first page", map.protect(3, 2, 1), RegionMap.HOLE);
        check.due("a free last page", map.protect(4, 5, 1), RegionMap.HOLE);
        check.due("a hole in the middle", map.protect(4, 10, 1), RegionMap.HOLE);
        check.due("a hole, with the same protection", map.protect(4, 10, 3), RegionMap.HOLE);
        check.due("HOLE before FULL", map.protect(7, 4, 1), RegionMap.HOLE);
        check.map("after HOLE", map, before);
        check.due("a page of protection 0 is mapped", map.protect(4, 4, 0), 4);
        check.due("and can be changed back", map.protect(4, 4, 3), 4);
    }

    private static void fullLeavesNoTrace(Check check) {
        RegionMap map = new RegionMap(32, 2);
        map.mapNew(4, 8, 3, 0);
        check.due("three of one", map.protect(6, 2, 1), RegionMap.FULL);
        check.map("after FULL", map, "4+8:3:0");
        check.due("exactly R", map.protect(4, 2, 1), 2);
        check.due("R + 1", map.protect(10, 2, 2), RegionMap.FULL);
        check.due("shifting the cut at the limit", map.protect(5, 4, 1), 3);
        check.map("after shifting", map, "4+5:1:0 9+3:3:0");
        check.due("nothing at the limit", map.protect(5, 2, 1), 0);
    }

    private static void wrongArguments(Check check) {
        RegionMap map = new RegionMap(32, 2);
        map.mapNew(0, 31, 1, 0);
        int[][] wrong = {
            {-1, 1, 0}, {LEAST, 1, 0}, {32, 1, 0}, {31, 2, 0}, {0, 33, 0}, {0, 0, 0}, {5, -1, 0},
            {MOST, 1, 0}, {1, MOST, 0}, {MOST, MOST, 0}, {LEAST, LEAST, 0}, {5, LEAST, 0},
            {0, 1, -1}, {0, 1, 8}, {0, 1, LEAST}, {0, 1, MOST}, {0, 1, RegionMap.FREE},
            {31, 1, 8}, {5, 1, -1},
        };
        for (int[] a : wrong) {
            String call = "protect(" + a[0] + ", " + a[1] + ", " + a[2] + ")";
            check.due(call, map.protect(a[0], a[1], a[2]), RegionMap.BAD);
        }
        check.map("after wrong arguments", map, "0+31:1:0");
    }
}
