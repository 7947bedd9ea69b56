import java.util.Arrays;
import java.util.function.IntSupplier;

/**
 * A RegionMap under test. Whatever the answer, it looks after each call that a refused call and a
 * call that only asks have left every page as it was.
 *
 * <p>A map is written as its runs "start+len:prot:backing", with a blank between them.
 */
final class Space {
    private static final int MOST_PAGES = 256;

    private final Check check;
    private final String made;
    private final RegionMap map;

    /** What a call answered, with the map it was made on, to be told if the answer is wrong. */
    final class Answer {
        private final String call;
        private final int[][] before;
        private final int got;

        private Answer(String call, int[][] before, int got) {
            this.call = call;
            this.before = before;
            this.got = got;
        }

        void gives(int want) {
            if (got != want) {
                check.due(toString(), got, want);
            }
        }

        @Override
        public String toString() {
            return made + " holding [" + picture(before) + "]: " + call;
        }

        int got() {
            return got;
        }
    }

    Space(Check check, int pages, int regions) {
        this.check = check;
        made = "RegionMap(" + pages + ", " + regions + ")";
        map = new RegionMap(pages, regions);
    }

    /** One that holds these runs from the beginning. */
    Space(Check check, int pages, int regions, String runs) {
        this(check, pages, regions);
        for (String run : runs.split(" ")) {
            String[] n = run.split("[+:]");
            mapNew(Integer.parseInt(n[0]), Integer.parseInt(n[1]), Integer.parseInt(n[2]), Integer.parseInt(n[3]))
                .gives(0);
        }
        is(runs);
    }

    Answer mapNew(int start, int len, int prot, int backing) {
        return change("mapNew", () -> map.mapNew(start, len, prot, backing), start, len, prot, backing);
    }

    Answer mapOver(int start, int len, int prot, int backing) {
        return change("mapOver", () -> map.mapOver(start, len, prot, backing), start, len, prot, backing);
    }

    Answer mapLow(int from, int len, int prot, int backing) {
        return change("mapLow", () -> map.mapLow(from, len, prot, backing), from, len, prot, backing);
    }

    Answer mapHigh(int to, int len, int prot, int backing) {
        return change("mapHigh", () -> map.mapHigh(to, len, prot, backing), to, len, prot, backing);
    }

    Answer unmap(int start, int len) {
        return change("unmap", () -> map.unmap(start, len), start, len);
    }

    Answer protect(int start, int len, int prot) {
        return change("protect", () -> map.protect(start, len, prot), start, len, prot);
    }

    Answer move(int start, int len, int to) {
        return change("move", () -> map.move(start, len, to), start, len, to);
    }

    Answer moveFree(int start, int len, int from) {
        return change("moveFree", () -> map.moveFree(start, len, from), start, len, from);
    }

    Answer protOf(int page) {
        return ask("protOf", () -> map.protOf(page), page);
    }

    Answer backingOf(int page) {
        return ask("backingOf", () -> map.backingOf(page), page);
    }

    Answer regionCount() {
        return ask("regionCount", map::regionCount);
    }

    Answer regionStart(int k) {
        return ask("regionStart", () -> map.regionStart(k), k);
    }

    Answer regionLength(int k) {
        return ask("regionLength", () -> map.regionLength(k), k);
    }

    Answer findLow(int from, int len) {
        return ask("findLow", () -> map.findLow(from, len), from, len);
    }

    Answer findHigh(int to, int len) {
        return ask("findHigh", () -> map.findHigh(to, len), to, len);
    }

    Answer longestGap() {
        return ask("longestGap", map::longestGap);
    }

    /** That the map is just this, page by page; it does not lean on the region calls of the class. */
    void is(String runs) {
        String now = picture(pages());
        if (!now.equals(runs)) {
            check.due(made + ": the map", now, runs);
        }
    }

    private Answer change(String name, IntSupplier call, int... arguments) {
        return perform(name, call, false, arguments);
    }

    private Answer ask(String name, IntSupplier call, int... arguments) {
        return perform(name, call, true, arguments);
    }

    private Answer perform(String name, IntSupplier call, boolean asks, int... arguments) {
        int[][] before = pages();
        int got = call.getAsInt();
        String list = Arrays.toString(arguments);
        Answer answer = new Answer(name + "(" + list.substring(1, list.length() - 1) + ")", before, got);
        if ((asks || got < 0) && !Arrays.deepEquals(before, pages())) {
            check.wrong(answer + " answered " + got + " and left [" + picture(pages()) + "]");
        }
        return answer;
    }

    private int[][] pages() {
        int[][] pages = new int[MOST_PAGES][2];
        for (int page = 0; page < MOST_PAGES; page++) {
            pages[page][0] = map.protOf(page);
            pages[page][1] = map.backingOf(page);
        }
        return pages;
    }

    private static String picture(int[][] pages) {
        StringBuilder runs = new StringBuilder();
        int page = 0;
        while (page < MOST_PAGES) {
            int first = page;
            page++;
            // Both are looked at, so that a page half freed shows.
            if (pages[first][0] < 0 && pages[first][1] < 0) {
                continue;
            }
            while (page < MOST_PAGES && continues(pages[page - 1], pages[page])) {
                page++;
            }
            runs.append(runs.length() == 0 ? "" : " ").append(first).append('+').append(page - first)
                .append(':').append(pages[first][0]).append(':').append(pages[first][1]);
        }
        return runs.toString();
    }

    private static boolean continues(int[] before, int[] here) {
        if (here[0] < 0 || here[0] != before[0]) {
            return false;
        }
        return before[1] == 0 && here[1] == 0
            || before[1] >= 1024 && here[1] == before[1] + 1 && here[1] % 1024 != 0;
    }
}
