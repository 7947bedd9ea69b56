import java.util.TreeMap;

/**
 * The document's words once more, as plainly as can be: a table of the mapped pages, made anew by
 * every change. The program is compared with it.
 */
final class Model {
    record Page(int prot, int backing) { }

    private final int pages;
    private final int regions;
    private TreeMap<Integer, Page> map = new TreeMap<>();

    Model(int pages, int regions) {
        this.pages = Math.max(16, Math.min(256, pages));
        this.regions = Math.max(2, Math.min(32, regions));
    }

    int pages() {
        return pages;
    }

    int mapNew(int start, int len, int prot, int backing) {
        if (!properRange(start, len) || !properAttributes(len, prot, backing)) {
            return RegionMap.BAD;
        }
        if (mapped(start, len) != 0) {
            return RegionMap.TAKEN;
        }
        return become(filled(start, len, prot, backing), 0);
    }

    int mapOver(int start, int len, int prot, int backing) {
        if (!properRange(start, len) || !properAttributes(len, prot, backing)) {
            return RegionMap.BAD;
        }
        return become(filled(start, len, prot, backing), mapped(start, len));
    }

    int mapLow(int from, int len, int prot, int backing) {
        if (from < 0 || from >= pages || len < 1 || len > pages || !properAttributes(len, prot, backing)) {
            return RegionMap.BAD;
        }
        int t = findLow(from, len);
        return t == RegionMap.NO_ROOM ? t : become(filled(t, len, prot, backing), t);
    }

    int mapHigh(int to, int len, int prot, int backing) {
        if (to < 1 || to > pages || len < 1 || len > pages || !properAttributes(len, prot, backing)) {
            return RegionMap.BAD;
        }
        int t = findHigh(to, len);
        return t == RegionMap.NO_ROOM ? t : become(filled(t, len, prot, backing), t);
    }

    int unmap(int start, int len) {
        if (!properRange(start, len)) {
            return RegionMap.BAD;
        }
        TreeMap<Integer, Page> next = new TreeMap<>(map);
        next.subMap(start, start + len).clear();
        return become(next, mapped(start, len));
    }

    int protect(int start, int len, int prot) {
        if (!properRange(start, len) || prot < 0 || prot > 7) {
            return RegionMap.BAD;
        }
        if (mapped(start, len) != len) {
            return RegionMap.HOLE;
        }
        TreeMap<Integer, Page> next = new TreeMap<>(map);
        next.subMap(start, start + len).replaceAll((p, old) -> new Page(prot, old.backing()));
        int others = (int) map.subMap(start, start + len).values().stream().filter(p -> p.prot() != prot).count();
        return become(next, others);
    }

    int move(int start, int len, int to) {
        if (!properRange(start, len) || !properRange(to, len)) {
            return RegionMap.BAD;
        }
        if (mapped(start, len) != len) {
            return RegionMap.HOLE;
        }
        TreeMap<Integer, Page> replaced = new TreeMap<>(map.subMap(to, to + len));
        replaced.subMap(start, start + len).clear();
        return become(moved(start, len, to), replaced.size());
    }

    int moveFree(int start, int len, int from) {
        if (!properRange(start, len) || from < 0 || from >= pages) {
            return RegionMap.BAD;
        }
        if (mapped(start, len) != len) {
            return RegionMap.HOLE;
        }
        int t = findLow(from, len);
        return t == RegionMap.NO_ROOM ? t : become(moved(start, len, t), t);
    }

    int protOf(int page) {
        if (page < 0 || page >= pages) {
            return RegionMap.BAD;
        }
        return map.containsKey(page) ? map.get(page).prot() : RegionMap.FREE;
    }

    int backingOf(int page) {
        if (page < 0 || page >= pages) {
            return RegionMap.BAD;
        }
        return map.containsKey(page) ? map.get(page).backing() : RegionMap.FREE;
    }

    int regionCount() {
        return firstPages(map).size();
    }

    int regionStart(int k) {
        var firsts = firstPages(map);
        return k < 0 || k >= firsts.size() ? RegionMap.BAD : firsts.get(k);
    }

    int regionLength(int k) {
        var firsts = firstPages(map);
        if (k < 0 || k >= firsts.size()) {
            return RegionMap.BAD;
        }
        int end = k + 1 < firsts.size() ? firsts.get(k + 1) : pages;
        return map.subMap(firsts.get(k), end).size();
    }

    int findLow(int from, int len) {
        if (from < 0 || from >= pages || len < 1 || len > pages) {
            return RegionMap.BAD;
        }
        for (int t = from; t + len <= pages; t++) {
            if (mapped(t, len) == 0) {
                return t;
            }
        }
        return RegionMap.NO_ROOM;
    }

    int findHigh(int to, int len) {
        if (to < 1 || to > pages || len < 1 || len > pages) {
            return RegionMap.BAD;
        }
        for (int t = to - len; t >= 0; t--) {
            if (mapped(t, len) == 0) {
                return t;
            }
        }
        return RegionMap.NO_ROOM;
    }

    int longestGap() {
        int longest = 0;
        int end = -1;
        for (int page : map.keySet()) {
            longest = Math.max(longest, page - end - 1);
            end = page;
        }
        return Math.max(longest, pages - end - 1);
    }

    private boolean properRange(int start, int len) {
        return start >= 0 && len >= 1 && (long) start + len <= pages;
    }

    private static boolean properAttributes(int len, int prot, int backing) {
        boolean ofObject = backing >= 1024 && backing <= 8191 && (long) (backing % 1024) + len <= 1024;
        return prot >= 0 && prot <= 7 && (backing == 0 || ofObject);
    }

    private int mapped(int start, int len) {
        return map.subMap(start, start + len).size();
    }

    private TreeMap<Integer, Page> filled(int start, int len, int prot, int backing) {
        TreeMap<Integer, Page> next = new TreeMap<>(map);
        for (int i = 0; i < len; i++) {
            next.put(start + i, new Page(prot, backing == 0 ? 0 : backing + i));
        }
        return next;
    }

    private TreeMap<Integer, Page> moved(int start, int len, int to) {
        TreeMap<Integer, Page> next = new TreeMap<>(map);
        for (int page = start; page < start + len; page++) {
            if (page < to || page >= to + len) {
                next.remove(page);
            }
        }
        for (int i = 0; i < len; i++) {
            next.put(to + i, map.get(start + i));
        }
        return next;
    }

    private int become(TreeMap<Integer, Page> next, int answer) {
        if (firstPages(next).size() > regions) {
            return RegionMap.FULL;
        }
        map = next;
        return answer;
    }

    private static java.util.List<Integer> firstPages(TreeMap<Integer, Page> map) {
        return map.keySet().stream().filter(p -> !continues(map.get(p - 1), map.get(p))).toList();
    }

    private static boolean continues(Page before, Page here) {
        if (before == null || before.prot() != here.prot()) {
            return false;
        }
        boolean anonymous = before.backing() == 0 && here.backing() == 0;
        boolean ofObjects = before.backing() >= 1024 && here.backing() >= 1024;
        return anonymous || ofObjects && before.backing() / 1024 == here.backing() / 1024
            && here.backing() == before.backing() + 1;
    }
}
