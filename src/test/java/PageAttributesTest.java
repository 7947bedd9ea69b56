/** Promises 10 and 11: protOf and backingOf. */
public final class PageAttributesTest {
    public static void main(String[] args) {
        Check check = new Check();
        everyProtection(check);
        everyObject(check);
        pagesOutside(check);
        check.end();
    }

    private static void everyProtection(Check check) {
        RegionMap map = new RegionMap(32, 32);
        for (int prot = 0; prot <= 7; prot++) {
            map.mapNew(2 * prot, 1, prot, 0);
        }
        for (int prot = 0; prot <= 7; prot++) {
            check.due("protOf with " + prot, map.protOf(2 * prot), prot);
            check.due("backingOf an anonymous page", map.backingOf(2 * prot), 0);
            check.due("protOf a free page", map.protOf(2 * prot + 1), RegionMap.FREE);
            check.due("backingOf a free page", map.backingOf(2 * prot + 1), RegionMap.FREE);
        }
    }

    private static void everyObject(Check check) {
        RegionMap map = new RegionMap(256, 32);
        for (int object = 1; object <= 7; object++) {
            map.mapNew(32 * object, 16, 2, 1024 * object);
            map.mapNew(32 * object + 16, 16, 2, 1024 * object + 1008);
        }
        for (int object = 1; object <= 7; object++) {
            for (int i = 0; i < 16; i++) {
                int low = 32 * object + i;
                check.due("backingOf(" + low + ")", map.backingOf(low), 1024 * object + i);
                check.due("backingOf(" + (low + 16) + ")", map.backingOf(low + 16), 1024 * object + 1008 + i);
                check.due("protOf(" + low + ")", map.protOf(low), 2);
            }
        }
    }

    private static void pagesOutside(Check check) {
        RegionMap map = new RegionMap(20, 4);
        map.mapNew(0, 20, 5, 1030);
        check.due("protOf(0)", map.protOf(0), 5);
        check.due("protOf(19)", map.protOf(19), 5);
        check.due("backingOf(0)", map.backingOf(0), 1030);
        check.due("backingOf(19)", map.backingOf(19), 1049);
        int[] outside = {-1, 20, 255, 256, 257, -256, Integer.MIN_VALUE, Integer.MAX_VALUE};
        for (int page : outside) {
            check.due("protOf(" + page + ")", map.protOf(page), RegionMap.BAD);
            check.due("backingOf(" + page + ")", map.backingOf(page), RegionMap.BAD);
        }
        check.map("after asking", map, "0+20:5:1030");
    }
}
