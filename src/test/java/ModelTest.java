/** All promises together: long runs of calls, each answer and each map compared with Model's. */
public final class ModelTest {
    private static final int[] STRANGE = {
        Integer.MIN_VALUE, Integer.MIN_VALUE + 1, -1024, -1, 0, 1, 2, 7, 8, 15, 16, 17, 255, 256, 257,
        1023, 1024, 2047, 2048, 8191, 8192, Integer.MAX_VALUE - 1, Integer.MAX_VALUE,
    };
    private static final int CALLS = 1500;
    // Unmapping comes more often than the rest, so that there are free places to map.
    private static final int[] KINDS = {0, 1, 2, 3, 4, 4, 4, 5, 6, 7};

    // The same numbers in every run, so that a failure can be seen again.
    private long seed;
    private String where = "";
    private final Check check = new Check("The whole document");
    private final int[] carriedOut = new int[8];
    private final int[] refused = new int[8];

    public static void main(String[] args) {
        ModelTest test = new ModelTest();
        int[][] sizes = {
            {16, 2}, {16, 3}, {16, 16}, {17, 4}, {20, 8}, {32, 6}, {48, 10}, {64, 32}, {256, 32}, {256, 5},
            {-7, -7}, {1000, 1000},
        };
        for (int round = 0; round < 3; round++) {
            for (int[] size : sizes) {
                test.run(size[0], size[1], 1 + round);
            }
        }
        if (!test.check.sawWrong()) {
            test.sawEveryAnswer();
        }
        test.check.end();
    }

    private int next(int bound) {
        seed = seed * 6364136223846793005L + 1442695040888963407L;
        return (int) ((seed >>> 33) % bound);
    }

    private void run(int pages, int regions, int round) {
        seed = 1000003L * pages + 31L * regions + round;
        RegionMap map = new RegionMap(pages, regions);
        Model model = new Model(pages, regions);
        // A run that went wrong once says nothing more.
        for (int n = 0; n < CALLS && !check.sawWrong(); n++) {
            where = "RegionMap(" + pages + ", " + regions + "), round " + round + ", call " + n + ": ";
            call(map, model);
            same(map, model);
        }
    }

    private int page(Model model) {
        return next(40) == 0 ? STRANGE[next(STRANGE.length)] : next(model.pages() + 1);
    }

    /** Ranges that must be mapped would mostly have a hole if they began anywhere. */
    private int mappedPage(Model model) {
        int first = model.regionStart(next(model.regionCount() + 1));
        return first < 0 ? page(model) : first + next(2);
    }

    private int length(Model model) {
        int kind = next(40);
        if (kind == 0) {
            return STRANGE[next(STRANGE.length)];
        }
        return 1 + next(kind < 5 ? model.pages() : 6);
    }

    private int prot() {
        return next(40) == 0 ? STRANGE[next(STRANGE.length)] : next(4) == 0 ? next(8) : 3 * next(2);
    }

    /** Mostly one that goes with the page, so that neighbours often continue each other. */
    private int backing(int page) {
        int kind = next(20);
        if (kind == 0) {
            return STRANGE[next(STRANGE.length)];
        }
        if (kind < 8) {
            return 0;
        }
        return kind < 10 ? 1024 + next(7168) : 1024 * (1 + next(2)) + (kind < 15 ? 0 : 1016) + (page & 255);
    }

    private void call(RegionMap map, Model model) {
        int kind = KINDS[next(KINDS.length)];
        int a = kind >= 5 && next(4) != 0 ? mappedPage(model) : page(model);
        int len = length(model);
        int prot = prot();
        int to = page(model);
        int backing = backing(a);
        int got;
        int want;
        switch (kind) {
            case 0 -> { got = map.mapNew(a, len, prot, backing); want = model.mapNew(a, len, prot, backing); }
            case 1 -> { got = map.mapOver(a, len, prot, backing); want = model.mapOver(a, len, prot, backing); }
            case 2 -> { got = map.mapLow(a, len, prot, backing); want = model.mapLow(a, len, prot, backing); }
            case 3 -> { got = map.mapHigh(a, len, prot, backing); want = model.mapHigh(a, len, prot, backing); }
            case 4 -> { got = map.unmap(a, len); want = model.unmap(a, len); }
            case 5 -> { got = map.protect(a, len, prot); want = model.protect(a, len, prot); }
            case 6 -> { got = map.move(a, len, to); want = model.move(a, len, to); }
            default -> { got = map.moveFree(a, len, to); want = model.moveFree(a, len, to); }
        }
        check.due(where + "kind " + kind + " with " + a + ", " + len + ", " + prot + ", " + backing + ", " + to,
            got, want);
        if (want >= 0) {
            carriedOut[kind]++;
        } else {
            refused[kind] |= 1 << -want;
        }
    }

    private void same(RegionMap map, Model model) {
        for (int page = -1; page <= model.pages(); page++) {
            due("protOf", page, map.protOf(page), model.protOf(page));
            due("backingOf", page, map.backingOf(page), model.backingOf(page));
        }
        int count = model.regionCount();
        due("regionCount", 0, map.regionCount(), count);
        for (int k = -1; k <= count; k++) {
            due("regionStart", k, map.regionStart(k), model.regionStart(k));
            due("regionLength", k, map.regionLength(k), model.regionLength(k));
        }
        due("longestGap", 0, map.longestGap(), model.longestGap());
        int bound = page(model);
        int len = length(model);
        due("findLow for " + len, bound, map.findLow(bound, len), model.findLow(bound, len));
        due("findHigh for " + len, bound, map.findHigh(bound, len), model.findHigh(bound, len));
    }

    // The words are put together only for a wrong answer: there are millions of right ones.
    private void due(String call, int argument, int got, int want) {
        if (got != want) {
            check.due(where + call + " at " + argument, got, want);
        }
    }

    /** Runs that never meet a refusal would not test it. */
    private void sawEveryAnswer() {
        int bad = 1 << 1;
        int hole = 1 << 2;
        int taken = 1 << 3;
        int noRoom = 1 << 4;
        int full = 1 << 5;
        int[] wanted = {
            bad | taken | full, bad | full, bad | noRoom | full, bad | noRoom | full,
            bad | full, bad | hole | full, bad | hole | full, bad | hole | noRoom | full,
        };
        for (int kind = 0; kind < wanted.length; kind++) {
            check.due("the refusals met by calls of kind " + kind, refused[kind], wanted[kind]);
            check.due("calls of kind " + kind + " were carried out often", carriedOut[kind] > 500 ? 1 : 0, 1);
        }
    }
}
