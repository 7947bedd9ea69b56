/** Promise 10: protOf. */
public final class ProtOfTest {
    public static void main(String[] args) {
        Check check = new Check("Promise 10: protOf");
        pagesOutside(check);
        freePages(check);
        mappedPages(check);
        nothingChanges(check);
        check.end();
    }

    private static void pagesOutside(Check check) {
        check.sentence("`protOf(page)` answers `BAD` if page < 0 or page >= P;");
        for (int pages : new int[] {16, 20, 255, 256}) {
            Space empty = new Space(check, pages, 2);
            Space full = new Space(check, pages, 2, "0+" + pages + ":5:0");
            for (int page : new int[] {-1, -2, -256, pages, pages + 1, 256, 257, 65536, -65536, Edges.LEAST,
                    Edges.LEAST + 1, Edges.MOST - 1, Edges.MOST}) {
                empty.protOf(page).gives(RegionMap.BAD);
                full.protOf(page).gives(RegionMap.BAD);
            }
            empty.protOf(0).gives(RegionMap.FREE);
            empty.protOf(pages - 1).gives(RegionMap.FREE);
            full.protOf(0).gives(5);
            full.protOf(pages - 1).gives(5);
        }
    }

    private static void freePages(Check check) {
        check.sentence("`FREE` if the page is free;");
        Space space = new Space(check, 16, 4, "1+1:0:0 3+12:7:1024");
        space.protOf(0).gives(RegionMap.FREE);
        space.protOf(2).gives(RegionMap.FREE);
        space.protOf(15).gives(RegionMap.FREE);
        space.unmap(0, 16).gives(13);
        for (int page = 0; page < 16; page++) {
            space.protOf(page).gives(RegionMap.FREE);
        }
        Space moved = new Space(check, 16, 4, "0+4:3:0");
        moved.move(0, 4, 8).gives(0);
        moved.protOf(0).gives(RegionMap.FREE);
        moved.protOf(8).gives(3);
    }

    private static void mappedPages(Check check) {
        check.sentence("else its protection, 0 .. 7.");
        Space space = new Space(check, 16, 16);
        for (int prot = 0; prot <= 7; prot++) {
            space.mapNew(2 * prot, 1, prot, 0).gives(0);
            space.mapNew(2 * prot + 1, 1, 7 - prot, 8191).gives(0);
        }
        for (int prot = 0; prot <= 7; prot++) {
            space.protOf(2 * prot).gives(prot);
            space.protOf(2 * prot + 1).gives(7 - prot);
        }
        space.protect(0, 16, 4).gives(14);
        for (int page = 0; page < 16; page++) {
            space.protOf(page).gives(4);
        }
    }

    private static void nothingChanges(Check check) {
        check.sentence("Nothing changes.");
        Space space = new Space(check, 16, 2, "1+2:0:0 15+1:7:8191");
        for (int page = -2; page < 18; page++) {
            int first = space.protOf(page).got();
            space.protOf(page).gives(first);
        }
        space.is("1+2:0:0 15+1:7:8191");
    }
}
