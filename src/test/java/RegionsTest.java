/** Promises 12, 13 and 14: regionCount, regionStart and regionLength. */
public final class RegionsTest {
    public static void main(String[] args) {
        Check check = new Check();
        noRegions(check);
        byAscendingFirstPage(check);
        takenFromTheMapAsItIs(check);
        asManyAsAllowed(check);
        upToTheGreatestPage(check);
        check.end();
    }

    /** Rows of start and length, and that there are no more regions than rows. */
    private static void regions(Check check, String when, RegionMap map, int[][] want) {
        check.due(when + ": regionCount", map.regionCount(), want.length);
        for (int k = 0; k < want.length; k++) {
            check.due(when + ": regionStart(" + k + ")", map.regionStart(k), want[k][0]);
            check.due(when + ": regionLength(" + k + ")", map.regionLength(k), want[k][1]);
        }
        int[] outside = {-1, want.length, want.length + 1, 32, 256, Integer.MIN_VALUE, Integer.MAX_VALUE};
        for (int k : outside) {
            check.due(when + ": regionStart(" + k + ")", map.regionStart(k), RegionMap.BAD);
            check.due(when + ": regionLength(" + k + ")", map.regionLength(k), RegionMap.BAD);
        }
    }

    private static void noRegions(Check check) {
        RegionMap map = new RegionMap(32, 4);
        regions(check, "new", map, new int[][] {});
        map.mapNew(0, 32, 0, 0);
        regions(check, "wholly mapped", map, new int[][] {{0, 32}});
        map.unmap(0, 32);
        regions(check, "freed again", map, new int[][] {});
    }

    private static void byAscendingFirstPage(Check check) {
        RegionMap map = new RegionMap(32, 8);
        map.mapNew(20, 5, 1, 0);
        map.mapNew(31, 1, 1, 0);
        map.mapNew(0, 1, 1, 0);
        map.mapNew(10, 3, 1, 1024);
        String before = Check.picture(map);
        regions(check, "mapped in disorder", map, new int[][] {{0, 1}, {10, 3}, {20, 5}, {31, 1}});
        check.map("after asking", map, before);
        map.mapNew(13, 7, 1, 1024);
        regions(check, "without gaps", map, new int[][] {{0, 1}, {10, 3}, {13, 7}, {20, 5}, {31, 1}});
    }

    private static void takenFromTheMapAsItIs(Check check) {
        RegionMap map = new RegionMap(32, 8);
        map.mapNew(0, 2, 3, 2040);
        map.mapNew(2, 2, 3, 2042);
        map.mapNew(4, 2, 3, 0);
        map.mapNew(6, 2, 3, 0);
        map.mapNew(8, 4, 3, 2044);
        map.mapNew(12, 4, 3, 2048);
        map.mapNew(16, 4, 2, 2052);
        regions(check, "joined and not", map, new int[][] {{0, 4}, {4, 4}, {8, 4}, {12, 4}, {16, 4}});
        map.protect(16, 4, 3);
        regions(check, "the same protection", map, new int[][] {{0, 4}, {4, 4}, {8, 4}, {12, 8}});
        map.mapOver(4, 4, 3, 2032);
        regions(check, "objects alone", map, new int[][] {{0, 4}, {4, 4}, {8, 4}, {12, 8}});
        map.move(8, 4, 4);
        regions(check, "one continues the other", map, new int[][] {{0, 8}, {12, 8}});
    }

    private static void asManyAsAllowed(Check check) {
        RegionMap map = new RegionMap(64, 32);
        int[][] want = new int[32][];
        for (int k = 0; k < 32; k++) {
            map.mapNew(2 * k, 1, 0, 0);
            want[k] = new int[] {2 * k, 1};
        }
        regions(check, "with gaps", map, want);
        map.mapOver(0, 32, 0, 0);
        check.due("some joined: regionCount", map.regionCount(), 16);
    }

    private static void upToTheGreatestPage(Check check) {
        RegionMap map = new RegionMap(256, 4);
        map.mapNew(0, 1, 1, 0);
        map.mapNew(250, 6, 1, 0);
        regions(check, "at both ends of 256 pages", map, new int[][] {{0, 1}, {250, 6}});
    }
}
