/** The regions of a small paged address space; README.md tells how to use it. */
public final class RegionMap {
    public static final int BAD = -1;
    public static final int HOLE = -2;
    public static final int TAKEN = -3;
    public static final int NO_ROOM = -4;
    public static final int FULL = -5;
    public static final int FREE = -6;

    private static final int LEAST_PAGES = 16;
    private static final int MOST_PAGES = 256;
    private static final int LEAST_REGIONS = 2;
    private static final int MOST_REGIONS = 32;
    private static final int MOST_PROT = 7;
    private static final int OBJECT_SIZE = 1024;
    private static final int MOST_BACKING = 8191;

    private final int pageTotal;
    private final int regionLimit;

    // A free page holds FREE in both arrays, since 0 is an ordinary protection and backing.
    private final int[] prots = new int[MOST_PAGES];
    private final int[] backings = new int[MOST_PAGES];

    // A change is made here first, so that a call found to be FULL leaves no trace.
    private final int[] draftProts = new int[MOST_PAGES];
    private final int[] draftBackings = new int[MOST_PAGES];

    public RegionMap(int pages, int regions) {
        pageTotal = clamp(pages, LEAST_PAGES, MOST_PAGES);
        regionLimit = clamp(regions, LEAST_REGIONS, MOST_REGIONS);
        for (int page = 0; page < MOST_PAGES; page++) {
            prots[page] = FREE;
            backings[page] = FREE;
        }
    }

    public int mapNew(int start, int len, int prot, int backing) {
        if (!isProperRange(start, len) || !areProperAttributes(len, prot, backing)) {
            return BAD;
        }
        if (countMapped(start, len) > 0) {
            return TAKEN;
        }
        return tryFill(start, len, prot, backing) ? 0 : FULL;
    }

    public int mapOver(int start, int len, int prot, int backing) {
        if (!isProperRange(start, len) || !areProperAttributes(len, prot, backing)) {
            return BAD;
        }
        int replaced = countMapped(start, len);
        return tryFill(start, len, prot, backing) ? replaced : FULL;
    }

    public int mapLow(int from, int len, int prot, int backing) {
        if (!areProperAttributes(len, prot, backing)) {
            return BAD;
        }
        int place = findLow(from, len);
        if (place < 0) {
            return place;
        }
        return tryFill(place, len, prot, backing) ? place : FULL;
    }

    public int mapHigh(int to, int len, int prot, int backing) {
        if (!areProperAttributes(len, prot, backing)) {
            return BAD;
        }
        int place = findHigh(to, len);
        if (place < 0) {
            return place;
        }
        return tryFill(place, len, prot, backing) ? place : FULL;
    }

    public int unmap(int start, int len) {
        if (!isProperRange(start, len)) {
            return BAD;
        }
        int freed = countMapped(start, len);
        startDraft();
        freeInDraft(start, len);
        return keepDraft() ? freed : FULL;
    }

    public int protect(int start, int len, int prot) {
        if (!isProperRange(start, len) || !isProperProt(prot)) {
            return BAD;
        }
        if (countMapped(start, len) < len) {
            return HOLE;
        }
        int changed = 0;
        startDraft();
        for (int page = start; page < start + len; page++) {
            if (prots[page] != prot) {
                draftProts[page] = prot;
                changed++;
            }
        }
        return keepDraft() ? changed : FULL;
    }

    public int move(int start, int len, int to) {
        if (!isProperRange(start, len) || !isProperRange(to, len)) {
            return BAD;
        }
        if (countMapped(start, len) < len) {
            return HOLE;
        }
        int replaced = countMappedOutside(to, start, len);
        return tryMove(start, len, to) ? replaced : FULL;
    }

    public int moveFree(int start, int len, int from) {
        if (!isProperRange(start, len) || !isPage(from)) {
            return BAD;
        }
        if (countMapped(start, len) < len) {
            return HOLE;
        }
        int place = findLow(from, len);
        if (place < 0) {
            return place;
        }
        return tryMove(start, len, place) ? place : FULL;
    }

    public int protOf(int page) {
        return isPage(page) ? prots[page] : BAD;
    }

    public int backingOf(int page) {
        return isPage(page) ? backings[page] : BAD;
    }

    public int regionCount() {
        return countRegions(prots, backings);
    }

    public int regionStart(int k) {
        int seen = 0;
        for (int page = 0; page < pageTotal; page++) {
            if (startsRegion(prots, backings, page)) {
                if (seen == k) {
                    return page;
                }
                seen++;
            }
        }
        return BAD;
    }

    public int regionLength(int k) {
        int first = regionStart(k);
        if (first < 0) {
            return BAD;
        }
        int end = first + 1;
        while (end < pageTotal && continuesPrevious(prots, backings, end)) {
            end++;
        }
        return end - first;
    }

    public int findLow(int from, int len) {
        if (!isPage(from) || !isLength(len)) {
            return BAD;
        }
        int run = 0;
        for (int page = from; page < pageTotal; page++) {
            run = prots[page] == FREE ? run + 1 : 0;
            if (run == len) {
                return page - len + 1;
            }
        }
        return NO_ROOM;
    }

    public int findHigh(int to, int len) {
        // A bound is one past a last page, so the bounds are the same numbers as the lengths.
        if (!isLength(to) || !isLength(len)) {
            return BAD;
        }
        int run = 0;
        for (int page = to - 1; page >= 0; page--) {
            run = prots[page] == FREE ? run + 1 : 0;
            if (run == len) {
                return page;
            }
        }
        return NO_ROOM;
    }

    public int longestGap() {
        int longest = 0;
        int run = 0;
        for (int page = 0; page < pageTotal; page++) {
            run = prots[page] == FREE ? run + 1 : 0;
            if (run > longest) {
                longest = run;
            }
        }
        return longest;
    }

    private static int clamp(int value, int least, int most) {
        if (value < least) {
            return least;
        }
        return value > most ? most : value;
    }

    private boolean isPage(int page) {
        return page >= 0 && page < pageTotal;
    }

    private boolean isLength(int len) {
        return len >= 1 && len <= pageTotal;
    }

    private boolean isProperRange(int start, int len) {
        // The difference cannot wrap around, as start + len could.
        return start >= 0 && isLength(len) && start <= pageTotal - len;
    }

    private static boolean isProperProt(int prot) {
        return prot >= 0 && prot <= MOST_PROT;
    }

    private static boolean areProperAttributes(int len, int prot, int backing) {
        if (!isProperProt(prot)) {
            return false;
        }
        if (backing == 0) {
            return true;
        }
        // The difference cannot wrap around, as offset + len could.
        return backing >= OBJECT_SIZE && backing <= MOST_BACKING
            && len <= OBJECT_SIZE - backing % OBJECT_SIZE;
    }

    private int countMapped(int start, int len) {
        int mapped = 0;
        for (int page = start; page < start + len; page++) {
            if (prots[page] != FREE) {
                mapped++;
            }
        }
        return mapped;
    }

    private int countMappedOutside(int to, int start, int len) {
        int mapped = 0;
        for (int page = to; page < to + len; page++) {
            boolean outside = page < start || page >= start + len;
            if (outside && prots[page] != FREE) {
                mapped++;
            }
        }
        return mapped;
    }

    private static boolean continuesPrevious(int[] pageProts, int[] pageBackings, int page) {
        if (page < 1 || pageProts[page] == FREE || pageProts[page] != pageProts[page - 1]) {
            return false;
        }
        int before = pageBackings[page - 1];
        int here = pageBackings[page];
        if (before == 0 && here == 0) {
            return true;
        }
        return here == before + 1 && here / OBJECT_SIZE == before / OBJECT_SIZE;
    }

    private static boolean startsRegion(int[] pageProts, int[] pageBackings, int page) {
        return pageProts[page] != FREE && !continuesPrevious(pageProts, pageBackings, page);
    }

    private int countRegions(int[] pageProts, int[] pageBackings) {
        int count = 0;
        for (int page = 0; page < pageTotal; page++) {
            if (startsRegion(pageProts, pageBackings, page)) {
                count++;
            }
        }
        return count;
    }

    private boolean tryFill(int start, int len, int prot, int backing) {
        startDraft();
        for (int i = 0; i < len; i++) {
            draftProts[start + i] = prot;
            draftBackings[start + i] = backing == 0 ? 0 : backing + i;
        }
        return keepDraft();
    }

    private boolean tryMove(int start, int len, int to) {
        startDraft();
        // Freed first, so that a destination overlapping the source stays mapped.
        freeInDraft(start, len);
        for (int i = 0; i < len; i++) {
            draftProts[to + i] = prots[start + i];
            draftBackings[to + i] = backings[start + i];
        }
        return keepDraft();
    }

    private void startDraft() {
        for (int page = 0; page < pageTotal; page++) {
            draftProts[page] = prots[page];
            draftBackings[page] = backings[page];
        }
    }

    private void freeInDraft(int start, int len) {
        for (int page = start; page < start + len; page++) {
            draftProts[page] = FREE;
            draftBackings[page] = FREE;
        }
    }

    private boolean keepDraft() {
        if (countRegions(draftProts, draftBackings) > regionLimit) {
            return false;
        }
        for (int page = 0; page < pageTotal; page++) {
            prots[page] = draftProts[page];
            backings[page] = draftBackings[page];
        }
        return true;
    }
}
