/** Promise 1: the constructor and the beginning. */
public final class ConstructorTest {
    public static void main(String[] args) {
        Check check = new Check();
        pagesAreClamped(check);
        regionsAreClamped(check);
        newObjectIsFree(check);
        check.end();
    }

    private static void pagesAreClamped(Check check) {
        int[][] pagesAndWant = {
            {Integer.MIN_VALUE, 16}, {-1, 16}, {0, 16}, {15, 16}, {16, 16}, {17, 17},
            {100, 100}, {255, 255}, {256, 256}, {257, 256}, {Integer.MAX_VALUE, 256},
        };
        for (int[] row : pagesAndWant) {
            RegionMap map = new RegionMap(row[0], 4);
            String made = "after RegionMap(" + row[0] + ", 4) ";
            check.due(made + "longestGap", map.longestGap(), row[1]);
            check.due(made + "protOf the last page", map.protOf(row[1] - 1), RegionMap.FREE);
            check.due(made + "protOf behind it", map.protOf(row[1]), RegionMap.BAD);
            check.due(made + "mapNew of all", map.mapNew(0, row[1], 1, 0), 0);
            check.due(made + "regionLength", map.regionLength(0), row[1]);
            check.due(made + "unmap of one too many", map.unmap(0, row[1] + 1), RegionMap.BAD);
        }
    }

    private static void regionsAreClamped(Check check) {
        int[][] regionsAndWant = {
            {Integer.MIN_VALUE, 2}, {-1, 2}, {0, 2}, {1, 2}, {2, 2}, {3, 3},
            {17, 17}, {31, 31}, {32, 32}, {33, 32}, {Integer.MAX_VALUE, 32},
        };
        for (int[] row : regionsAndWant) {
            RegionMap map = new RegionMap(128, row[0]);
            String made = "after RegionMap(128, " + row[0] + ") ";
            for (int k = 0; k < row[1]; k++) {
                check.due(made + "mapNew number " + k, map.mapNew(2 * k, 1, 1, 0), 0);
            }
            check.due(made + "one more", map.mapNew(2 * row[1], 1, 1, 0), RegionMap.FULL);
            check.due(made + "regionCount", map.regionCount(), row[1]);
        }
    }

    private static void newObjectIsFree(Check check) {
        RegionMap map = new RegionMap(200, 5);
        for (int page = 0; page < 200; page++) {
            check.due("new: protOf(" + page + ")", map.protOf(page), RegionMap.FREE);
            check.due("new: backingOf(" + page + ")", map.backingOf(page), RegionMap.FREE);
        }
        check.due("new: regionCount", map.regionCount(), 0);
        check.due("new: regionStart(0)", map.regionStart(0), RegionMap.BAD);
        check.due("new: longestGap", map.longestGap(), 200);
    }
}
