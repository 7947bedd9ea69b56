/** Promise 12: regionCount. */
public final class RegionCountTest {
    public static void main(String[] args) {
        Check check = new Check("Promise 12: regionCount");
        fromNoneToAll(check);
        asItIsNow(check);
        noneWhenAllIsFree(check);
        nothingChanges(check);
        check.end();
    }

    private static void fromNoneToAll(Check check) {
        check.sentence("`regionCount()` answers the number of regions of the map as it is now, 0 .. R.");
        for (int regions : new int[] {2, 3, 31, 32}) {
            Space space = new Space(check, 256, regions);
            for (int k = 0; k < regions; k++) {
                space.regionCount().gives(k);
                space.mapNew(8 * k + 7, 1, 0, 0).gives(0);
            }
            space.regionCount().gives(regions);
            space.mapNew(0, 1, 0, 0).gives(RegionMap.FULL);
            space.regionCount().gives(regions);
        }
        // As many regions as there are pages.
        Space single = new Space(check, 16, 16);
        for (int page = 0; page < 16; page++) {
            single.mapNew(page, 1, 3, 1024).gives(0);
            single.regionCount().gives(page + 1);
        }
    }

    private static void asItIsNow(Check check) {
        check.sentence("`regionCount()` answers the number of regions of the map as it is now, 0 .. R.");
        Space space = new Space(check, 32, 8, "0+8:3:1024");
        space.unmap(3, 2).gives(2);
        space.regionCount().gives(2);
        space.mapNew(3, 2, 3, 1027).gives(0);
        space.regionCount().gives(1);
        space.protect(7, 1, 2).gives(1);
        space.regionCount().gives(2);
        space.move(7, 1, 31).gives(0);
        space.regionCount().gives(2);
        space.move(31, 1, 3).gives(1);
        space.regionCount().gives(3);
        space.mapOver(0, 32, 0, 0).gives(7);
        space.regionCount().gives(1);
    }

    private static void noneWhenAllIsFree(Check check) {
        check.sentence("It is 0 exactly when every page is free.");
        new Space(check, 16, 2).regionCount().gives(0);
        for (int pages : new int[] {16, 256}) {
            for (int page : new int[] {0, 1, pages / 2, pages - 1}) {
                Space space = new Space(check, pages, 2, page + "+1:0:0");
                space.regionCount().gives(1);
                space.unmap(page, 1).gives(1);
                space.regionCount().gives(0);
            }
            Space full = new Space(check, pages, 2, "0+" + pages + ":0:0");
            full.regionCount().gives(1);
            full.unmap(0, pages - 1).gives(pages - 1);
            full.regionCount().gives(1);
            full.unmap(0, pages).gives(1);
            full.regionCount().gives(0);
        }
    }

    private static void nothingChanges(Check check) {
        check.sentence("Nothing changes.");
        Space space = new Space(check, 16, 2, "1+2:0:0 15+1:7:8191");
        space.regionCount().gives(2);
        space.regionCount().gives(2);
        space.is("1+2:0:0 15+1:7:8191");
    }
}
