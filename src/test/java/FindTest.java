/** Promises 15, 16 and 17: findLow, findHigh and longestGap. */
public final class FindTest {
    private static final int MOST = Integer.MAX_VALUE;
    private static final int LEAST = Integer.MIN_VALUE;

    public static void main(String[] args) {
        Check check = new Check();
        allFree(check);
        noneFree(check);
        amongGaps(check);
        wrongArguments(check);
        againstPlainSearch(check);
        check.end();
    }

    private static void low(Check check, RegionMap map, int from, int len, int want) {
        check.due("findLow(" + from + ", " + len + ")", map.findLow(from, len), want);
    }

    private static void high(Check check, RegionMap map, int to, int len, int want) {
        check.due("findHigh(" + to + ", " + len + ")", map.findHigh(to, len), want);
    }

    private static void allFree(Check check) {
        RegionMap map = new RegionMap(32, 4);
        low(check, map, 0, 32, 0);
        low(check, map, 1, 32, RegionMap.NO_ROOM);
        low(check, map, 31, 1, 31);
        low(check, map, 31, 2, RegionMap.NO_ROOM);
        low(check, map, 31, 32, RegionMap.NO_ROOM);
        high(check, map, 32, 32, 0);
        high(check, map, 31, 32, RegionMap.NO_ROOM);
        high(check, map, 1, 1, 0);
        high(check, map, 1, 2, RegionMap.NO_ROOM);
        high(check, map, 32, 1, 31);
        check.due("longestGap", map.longestGap(), 32);
    }

    private static void noneFree(Check check) {
        RegionMap map = new RegionMap(32, 4);
        map.mapNew(0, 32, 0, 0);
        low(check, map, 0, 1, RegionMap.NO_ROOM);
        low(check, map, 0, 32, RegionMap.NO_ROOM);
        high(check, map, 32, 1, RegionMap.NO_ROOM);
        high(check, map, 32, 32, RegionMap.NO_ROOM);
        check.due("longestGap", map.longestGap(), 0);
        map.unmap(31, 1);
        check.due("longestGap with the last page", map.longestGap(), 1);
        low(check, map, 0, 1, 31);
        high(check, map, 31, 1, RegionMap.NO_ROOM);
        map.mapNew(31, 1, 0, 0);
        map.unmap(0, 1);
        check.due("longestGap with the first page", map.longestGap(), 1);
        low(check, map, 1, 1, RegionMap.NO_ROOM);
        high(check, map, 32, 1, 0);
    }

    private static void amongGaps(Check check) {
        RegionMap map = new RegionMap(32, 8);
        map.mapNew(3, 2, 0, 0);
        map.mapNew(10, 6, 7, 8000);
        map.mapNew(20, 10, 1, 0);
        String before = Check.picture(map);
        low(check, map, 0, 3, 0);
        low(check, map, 0, 4, 5);
        low(check, map, 1, 3, 5);
        low(check, map, 3, 1, 5);
        low(check, map, 6, 4, 6);
        low(check, map, 7, 4, 16);
        low(check, map, 0, 6, RegionMap.NO_ROOM);
        low(check, map, 17, 4, RegionMap.NO_ROOM);
        low(check, map, 17, 2, 17);
        low(check, map, 25, 2, 30);
        high(check, map, 32, 2, 30);
        high(check, map, 32, 3, 17);
        high(check, map, 31, 2, 18);
        high(check, map, 31, 1, 30);
        high(check, map, 30, 1, 19);
        high(check, map, 20, 4, 16);
        high(check, map, 19, 4, 6);
        high(check, map, 9, 4, 5);
        high(check, map, 8, 4, RegionMap.NO_ROOM);
        high(check, map, 32, 6, RegionMap.NO_ROOM);
        check.due("longestGap in the middle", map.longestGap(), 5);
        check.map("after asking", map, before);
        map.unmap(24, 6);
        check.due("longestGap at the end", map.longestGap(), 8);
        map.unmap(3, 13);
        check.due("longestGap at the beginning", map.longestGap(), 20);
    }

    private static void wrongArguments(Check check) {
        RegionMap map = new RegionMap(32, 4);
        map.mapNew(0, 4, 0, 0);
        int[][] wrongLow = {
            {-1, 1}, {LEAST, 1}, {32, 1}, {MOST, 1}, {0, 0}, {0, -1}, {0, LEAST}, {0, 33}, {0, MOST},
            {MOST, MOST}, {LEAST, LEAST}, {-1, 33}, {31, 33}, {32, 32},
        };
        for (int[] a : wrongLow) {
            low(check, map, a[0], a[1], RegionMap.BAD);
        }
        int[][] wrongHigh = {
            {0, 1}, {-1, 1}, {LEAST, 1}, {33, 1}, {MOST, 1}, {32, 0}, {32, -1}, {32, LEAST}, {32, 33},
            {32, MOST}, {MOST, MOST}, {LEAST, LEAST}, {1, 33}, {0, 32},
        };
        for (int[] a : wrongHigh) {
            high(check, map, a[0], a[1], RegionMap.BAD);
        }
        check.map("after wrong arguments", map, "0+4:0:0");
    }

    /** Every bound and length on one map, against a search that looks at each place by itself. */
    private static void againstPlainSearch(Check check) {
        RegionMap map = new RegionMap(40, 16);
        int[][] mapped = {{1, 1}, {5, 2}, {9, 1}, {12, 8}, {26, 1}, {28, 1}, {38, 1}};
        for (int[] m : mapped) {
            map.mapNew(m[0], m[1], m[0] % 8, 0);
        }
        for (int len = 1; len <= 40; len++) {
            for (int bound = 0; bound <= 40; bound++) {
                int lowest = RegionMap.NO_ROOM;
                int highest = RegionMap.NO_ROOM;
                for (int t = 0; t + len <= 40; t++) {
                    if (!isFree(map, t, len)) {
                        continue;
                    }
                    if (t >= bound && lowest < 0) {
                        lowest = t;
                    }
                    if (t + len <= bound) {
                        highest = t;
                    }
                }
                low(check, map, bound, len, bound == 40 ? RegionMap.BAD : lowest);
                high(check, map, bound, len, bound == 0 ? RegionMap.BAD : highest);
            }
        }
    }

    private static boolean isFree(RegionMap map, int start, int len) {
        for (int page = start; page < start + len; page++) {
            if (map.protOf(page) != RegionMap.FREE) {
                return false;
            }
        }
        return true;
    }
}
