/** Promise 8: move. */
public final class MoveTest {
    private static final int MOST = Integer.MAX_VALUE;
    private static final int LEAST = Integer.MIN_VALUE;

    public static void main(String[] args) {
        Check check = new Check();
        movesToFreePages(check);
        replacesAndCounts(check);
        overlapsUpAndDown(check);
        toItsOwnPlace(check);
        holes(check);
        fullLeavesNoTrace(check);
        wrongArguments(check);
        check.end();
    }

    private static void movesToFreePages(Check check) {
        RegionMap map = new RegionMap(32, 8);
        map.mapNew(4, 4, 3, 1024);
        map.mapNew(8, 4, 0, 0);
        check.due("parts of two regions", map.move(6, 4, 20), 0);
        check.map("after two regions", map, "4+2:3:1024 10+2:0:0 20+2:3:1026 22+2:0:0");
        check.due("backingOf a page left", map.backingOf(6), RegionMap.FREE);
        check.due("back again", map.move(20, 4, 6), 0);
        check.map("joined again", map, "4+4:3:1024 8+4:0:0");
        check.due("to the last pages", map.move(4, 8, 24), 0);
        check.due("to the first pages", map.move(24, 8, 0), 0);
        check.map("at the first pages", map, "0+4:3:1024 4+4:0:0");
    }

    private static void replacesAndCounts(Check check) {
        RegionMap map = new RegionMap(32, 8);
        map.mapNew(0, 4, 1, 1024);
        map.mapNew(10, 2, 2, 0);
        map.mapNew(13, 4, 2, 0);
        check.due("onto mapped and free pages", map.move(0, 4, 10), 3);
        check.map("after replacing", map, "10+4:1:1024 14+3:2:0");
        check.due("onto mapped pages alone", map.move(10, 2, 15), 2);
        check.map("after the next", map, "12+2:1:1026 14+1:2:0 15+2:1:1024");
    }

    private static void overlapsUpAndDown(Check check) {
        RegionMap map = new RegionMap(32, 8);
        map.mapNew(4, 4, 3, 1024);
        map.mapNew(8, 2, 1, 0);
        map.mapNew(10, 1, 5, 8191);
        check.due("up by one, onto a mapped page", map.move(4, 6, 5), 1);
        check.map("after up by one", map, "5+4:3:1024 9+2:1:0");
        check.due("down by two", map.move(5, 6, 3), 0);
        check.map("after down by two", map, "3+4:3:1024 7+2:1:0");
        map.mapNew(1, 1, 6, 0);
        check.due("down by two, onto a mapped page", map.move(3, 5, 1), 1);
        check.map("after down onto it", map, "1+4:3:1024 5+1:1:0 8+1:1:0");
        check.due("up by the length less one", map.move(1, 5, 5), 1);
        check.map("after up by four", map, "5+4:3:1024 9+1:1:0");
        check.due("up by the length", map.move(5, 5, 10), 0);
        check.map("after up by five", map, "10+4:3:1024 14+1:1:0");
    }

    private static void toItsOwnPlace(Check check) {
        RegionMap map = new RegionMap(32, 2);
        map.mapNew(4, 4, 3, 1024);
        map.mapNew(8, 4, 0, 0);
        check.due("to its own place, at the limit", map.move(5, 5, 5), 0);
        check.map("after its own place", map, "4+4:3:1024 8+4:0:0");
        check.due("its own place with a hole", map.move(3, 5, 3), RegionMap.HOLE);
    }

    private static void holes(Check check) {
        RegionMap map = new RegionMap(32, 2);
        map.mapNew(4, 4, 3, 1024);
        map.mapNew(10, 4, 3, 0);
        String before = Check.picture(map);
        check.due("a free first page", map.move(3, 3, 20), RegionMap.HOLE);
        check.due("a free last page", map.move(4, 5, 20), RegionMap.HOLE);
        check.due("a hole in the middle", map.move(4, 10, 20), RegionMap.HOLE);
        check.due("HOLE before FULL", map.move(5, 4, 20), RegionMap.HOLE);
        check.map("after HOLE", map, before);
    }

    private static void fullLeavesNoTrace(Check check) {
        RegionMap map = new RegionMap(32, 3);
        map.mapNew(4, 8, 3, 0);
        check.due("exactly R", map.move(6, 2, 20), 0);
        check.map("at the limit", map, "4+2:3:0 8+4:3:0 20+2:3:0");
        check.due("R + 1", map.move(9, 1, 30), RegionMap.FULL);
        check.map("after FULL", map, "4+2:3:0 8+4:3:0 20+2:3:0");
        check.due("a whole region at the limit", map.move(20, 2, 25), 0);
        check.due("only the final map counts", map.move(4, 2, 14), 0);
        check.map("after a whole region", map, "8+4:3:0 14+2:3:0 25+2:3:0");
        check.due("a piece that joins elsewhere", map.move(8, 1, 24), 0);
        check.map("after a piece", map, "9+3:3:0 14+2:3:0 24+3:3:0");
    }

    private static void wrongArguments(Check check) {
        RegionMap map = new RegionMap(32, 2);
        map.mapNew(0, 32, 1, 0);
        map.unmap(16, 1);
        String before = Check.picture(map);
        int[][] wrong = {
            {-1, 1, 0}, {LEAST, 1, 0}, {32, 1, 0}, {31, 2, 0}, {0, 33, 0}, {0, 0, 0}, {5, -1, 0},
            {MOST, 1, 0}, {1, MOST, 0}, {MOST, MOST, MOST}, {LEAST, LEAST, LEAST},
            {0, 1, -1}, {0, 1, 32}, {0, 2, 31}, {0, 1, LEAST}, {0, 1, MOST}, {0, MOST, 1},
            {16, 1, 32}, {16, 2, 31}, {16, 1, -1},
        };
        for (int[] a : wrong) {
            String call = "move(" + a[0] + ", " + a[1] + ", " + a[2] + ")";
            check.due(call, map.move(a[0], a[1], a[2]), RegionMap.BAD);
        }
        check.map("after wrong arguments", map, before);
    }
}
