/** Promise 11: backingOf. */
public final class BackingOfTest {
    public static void main(String[] args) {
        Check check = new Check("Promise 11: backingOf");
        pagesOutside(check);
        freePages(check);
        mappedPages(check);
        everyObject(check);
        nothingChanges(check);
        check.end();
    }

    private static void pagesOutside(Check check) {
        check.sentence("`backingOf(page)` answers `BAD` if page < 0 or page >= P;");
        for (int pages : new int[] {16, 20, 255, 256}) {
            Space empty = new Space(check, pages, 2);
            Space full = new Space(check, pages, 2, "0+" + pages + ":5:1030");
            for (int page : new int[] {-1, -2, -256, pages, pages + 1, 256, 257, 65536, -65536, Edges.LEAST,
                    Edges.LEAST + 1, Edges.MOST - 1, Edges.MOST}) {
                empty.backingOf(page).gives(RegionMap.BAD);
                full.backingOf(page).gives(RegionMap.BAD);
            }
            empty.backingOf(0).gives(RegionMap.FREE);
            empty.backingOf(pages - 1).gives(RegionMap.FREE);
            full.backingOf(0).gives(1030);
            full.backingOf(pages - 1).gives(1029 + pages);
        }
    }

    private static void freePages(Check check) {
        check.sentence("`FREE` if the page is free;");
        Space space = new Space(check, 16, 4, "1+1:0:0 3+12:7:1024");
        space.backingOf(0).gives(RegionMap.FREE);
        space.backingOf(2).gives(RegionMap.FREE);
        space.backingOf(15).gives(RegionMap.FREE);
        space.unmap(0, 16).gives(13);
        for (int page = 0; page < 16; page++) {
            space.backingOf(page).gives(RegionMap.FREE);
        }
        Space moved = new Space(check, 16, 4, "0+4:3:0");
        moved.move(0, 4, 8).gives(0);
        moved.backingOf(0).gives(RegionMap.FREE);
        moved.backingOf(8).gives(0);
    }

    private static void mappedPages(Check check) {
        check.sentence("else its backing, 0 or 1024 .. 8191.");
        Space space = new Space(check, 16, 16, "0+2:0:0 4+1:1:1024 6+1:2:8191 8+2:3:2046 10+2:3:2048");
        space.backingOf(0).gives(0);
        space.backingOf(1).gives(0);
        space.backingOf(4).gives(1024);
        space.backingOf(6).gives(8191);
        space.backingOf(9).gives(2047);
        space.backingOf(10).gives(2048);
        space.backingOf(11).gives(2049);
        space.protect(8, 4, 0).gives(4);
        space.backingOf(9).gives(2047);
        space.mapOver(9, 1, 0, 0).gives(1);
        space.backingOf(9).gives(0);
    }

    private static void everyObject(Check check) {
        check.sentence("else its backing, 0 or 1024 .. 8191.");
        Space space = new Space(check, 256, 32);
        for (int object = 1; object <= 7; object++) {
            space.mapNew(32 * object, 16, 2, 1024 * object).gives(0);
            space.mapNew(32 * object + 16, 16, 2, 1024 * object + 1008).gives(0);
        }
        for (int object = 1; object <= 7; object++) {
            for (int i = 0; i < 16; i++) {
                space.backingOf(32 * object + i).gives(1024 * object + i);
                space.backingOf(32 * object + 16 + i).gives(1024 * object + 1008 + i);
            }
        }
    }

    private static void nothingChanges(Check check) {
        check.sentence("Nothing changes.");
        Space space = new Space(check, 16, 2, "1+2:0:0 15+1:7:8191");
        for (int page = -2; page < 18; page++) {
            int first = space.backingOf(page).got();
            space.backingOf(page).gives(first);
        }
        space.is("1+2:0:0 15+1:7:8191");
    }
}
