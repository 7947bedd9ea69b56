/** Promise 6: unmap. */
public final class UnmapTest {
    private static final int MOST = Integer.MAX_VALUE;
    private static final int LEAST = Integer.MIN_VALUE;

    public static void main(String[] args) {
        Check check = new Check();
        freesAndCounts(check);
        fullLeavesNoTrace(check);
        wrongArguments(check);
        check.end();
    }

    private static void freesAndCounts(Check check) {
        RegionMap map = new RegionMap(32, 8);
        check.due("free pages", map.unmap(0, 32), 0);
        map.mapNew(4, 16, 0, 1024);
        check.due("the middle", map.unmap(8, 4), 4);
        check.map("after the middle", map, "4+4:0:1024 12+8:0:1032");
        check.due("backingOf a freed page", map.backingOf(8), RegionMap.FREE);
        check.due("free pages between", map.unmap(8, 4), 0);
        check.map("after nothing", map, "4+4:0:1024 12+8:0:1032");
        check.due("a part of each and the gap", map.unmap(7, 6), 2);
        check.map("after a part of each", map, "4+3:0:1024 13+7:0:1033");
        check.due("the last page of a region", map.unmap(19, 1), 1);
        check.due("the first page of a region", map.unmap(4, 1), 1);
        check.map("after both edges", map, "5+2:0:1025 13+6:0:1033");
        check.due("all", map.unmap(0, 32), 8);
        check.map("after all", map, "");
        check.due("the longest gap after all", map.longestGap(), 32);
    }

    private static void fullLeavesNoTrace(Check check) {
        RegionMap map = new RegionMap(32, 2);
        map.mapNew(0, 32, 1, 0);
        check.due("exactly R", map.unmap(5, 1), 1);
        check.due("R + 1", map.unmap(10, 1), RegionMap.FULL);
        check.map("after FULL", map, "0+5:1:0 6+26:1:0");
        check.due("a cut and free pages at the limit", map.unmap(4, 3), 2);
        check.due("an edge at the limit", map.unmap(31, 1), 1);
        check.due("nothing at the limit", map.unmap(4, 3), 0);
        check.map("after all", map, "0+4:1:0 7+24:1:0");
        check.due("one region and a piece of the other", map.unmap(0, 20), 17);
        check.map("after one region", map, "20+11:1:0");
    }

    private static void wrongArguments(Check check) {
        RegionMap map = new RegionMap(32, 2);
        map.mapNew(0, 32, 1, 0);
        int[][] wrong = {
            {-1, 1}, {-1, 2}, {LEAST, 1}, {32, 1}, {31, 2}, {0, 33}, {1, 32}, {0, 0}, {5, -1},
            {5, LEAST}, {MOST, 1}, {1, MOST}, {MOST, MOST}, {LEAST, LEAST}, {LEAST, MOST},
        };
        for (int[] a : wrong) {
            check.due("unmap(" + a[0] + ", " + a[1] + ")", map.unmap(a[0], a[1]), RegionMap.BAD);
        }
        check.map("after wrong arguments", map, "0+32:1:0");
    }
}
