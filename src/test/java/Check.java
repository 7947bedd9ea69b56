/** What the tests of the project share: comparing answers and maps, and the exit code. */
final class Check {
    private int wrong = 0;

    void due(String call, int got, int want) {
        if (got != want) {
            wrong++;
            System.out.println(call + " answered " + got + ", due is " + want);
        }
    }

    void due(String what, String got, String want) {
        if (!got.equals(want)) {
            wrong++;
            System.out.println(what + " is [" + got + "], due is [" + want + "]");
        }
    }

    void map(String when, RegionMap map, String want) {
        due("the map " + when, picture(map), want);
    }

    boolean sawWrong() {
        return wrong != 0;
    }

    void end() {
        if (wrong != 0) {
            System.out.println(wrong + " wrong");
            System.exit(1);
        }
        System.out.println("all as due");
    }

    /**
     * The map as the runs "start+len:prot:backing", joined where the document lets them continue.
     * It is read page by page, so that it does not lean on the region calls of the class.
     */
    static String picture(RegionMap map) {
        StringBuilder runs = new StringBuilder();
        int page = 0;
        while (map.protOf(page) != RegionMap.BAD) {
            int first = page;
            page++;
            if (map.protOf(first) == RegionMap.FREE) {
                continue;
            }
            while (continues(map, page)) {
                page++;
            }
            runs.append(runs.length() == 0 ? "" : " ").append(first).append('+').append(page - first)
                .append(':').append(map.protOf(first)).append(':').append(map.backingOf(first));
        }
        return runs.toString();
    }

    private static boolean continues(RegionMap map, int page) {
        int before = map.backingOf(page - 1);
        int here = map.backingOf(page);
        if (map.protOf(page) < 0 || map.protOf(page) != map.protOf(page - 1)) {
            return false;
        }
        return before == 0 && here == 0
            || before >= 1024 && here == before + 1 && here % 1024 != 0;
    }
}
