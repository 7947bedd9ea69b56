/** Promise 13: regionStart. */
public final class RegionStartTest {
    public static void main(String[] args) {
        Check check = new Check("Promise 13: regionStart");
        noSuchRegion(check);
        firstPages(check);
        noRegions(check);
        nothingChanges(check);
        check.end();
    }

    private static void noSuchRegion(Check check) {
        check.sentence("`regionStart(k)` answers `BAD` if k < 0 or k >= regionCount();");
        for (int count : new int[] {1, 2, 5, 31, 32}) {
            Space space = new Space(check, 64, 32);
            for (int k = 0; k < count; k++) {
                space.mapNew(2 * k + 1, 1, 0, 0).gives(0);
            }
            for (int k : new int[] {-1, -2, count, count + 1, 33, 64, 256, 65536, -65536, Edges.LEAST,
                    Edges.LEAST + 1, Edges.MOST - 1, Edges.MOST}) {
                space.regionStart(k).gives(RegionMap.BAD);
            }
            space.regionStart(0).gives(1);
            space.regionStart(count - 1).gives(2 * count - 1);
            space.unmap(2 * count - 1, 1).gives(1);
            space.regionStart(count - 1).gives(RegionMap.BAD);
        }
    }

    private static void firstPages(Check check) {
        check.sentence("else the first page of region k.");
        Space space = new Space(check, 32, 8);
        space.mapNew(20, 5, 1, 0).gives(0);
        space.mapNew(31, 1, 1, 0).gives(0);
        space.mapNew(0, 1, 1, 0).gives(0);
        space.mapNew(10, 3, 1, 1024).gives(0);
        starts(space, 0, 10, 20, 31);
        space.mapNew(13, 7, 1, 1024).gives(0);
        starts(space, 0, 10, 13, 20, 31);
        space.mapNew(1, 9, 1, 0).gives(0);
        starts(space, 0, 10, 13, 20, 31);
        space.protect(0, 2, 0).gives(2);
        starts(space, 0, 2, 10, 13, 20, 31);
        space.mapOver(0, 32, 1, 0).gives(26);
        starts(space, 0);
        Space ends = new Space(check, 256, 4, "0+1:1:0 250+5:1:0 255+1:2:0");
        starts(ends, 0, 250, 255);
    }

    private static void starts(Space space, int... firsts) {
        for (int k = 0; k < firsts.length; k++) {
            space.regionStart(k).gives(firsts[k]);
        }
        space.regionStart(firsts.length).gives(RegionMap.BAD);
    }

    private static void noRegions(Check check) {
        check.sentence("With no regions every k gives `BAD`.");
        Space space = new Space(check, 256, 32);
        for (int k = -2; k <= 257; k++) {
            space.regionStart(k).gives(RegionMap.BAD);
        }
        space.regionStart(Edges.LEAST).gives(RegionMap.BAD);
        space.regionStart(Edges.MOST).gives(RegionMap.BAD);
        space.mapNew(0, 256, 0, 0).gives(0);
        space.regionStart(0).gives(0);
        space.unmap(0, 256).gives(256);
        space.regionStart(0).gives(RegionMap.BAD);
        space.regionStart(-1).gives(RegionMap.BAD);
    }

    private static void nothingChanges(Check check) {
        check.sentence("Nothing changes.");
        Space space = new Space(check, 16, 2, "1+2:0:0 15+1:7:8191");
        for (int k = -1; k <= 2; k++) {
            int first = space.regionStart(k).got();
            space.regionStart(k).gives(first);
        }
        space.is("1+2:0:0 15+1:7:8191");
    }
}
