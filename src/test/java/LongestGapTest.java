/** Promise 17: longestGap. */
public final class LongestGapTest {
    public static void main(String[] args) {
        Check check = new Check("Promise 17: longestGap");
        greatestNumber(check);
        noPageFree(check);
        everyPageFree(check);
        nothingChanges(check);
        check.end();
    }

    private static void greatestNumber(Check check) {
        check.sentence("`longestGap()` answers the greatest number of consecutive free pages,");
        gap(check, 32, "3+2:0:0 10+6:7:8000 20+10:1:0", 5);
        gap(check, 32, "3+2:0:0 10+6:7:8000 20+4:1:0", 8);
        gap(check, 32, "20+4:1:0", 20);
        gap(check, 32, "1+30:1:0", 1);
        gap(check, 32, "0+1:1:0 31+1:1:0", 30);
        gap(check, 32, "10+1:1:0 21+1:0:0", 10);
        gap(check, 32, "10+1:1:0 20+1:0:0", 11);
        gap(check, 32, "0+8:1:0 12+8:1:0 24+8:1:0", 4);
        gap(check, 256, "0+1:1:0", 255);
        gap(check, 256, "255+1:1:0", 255);
        gap(check, 256, "128+1:0:0", 128);
        // The two ends of the space are not neighbours.
        gap(check, 16, "3+8:1:0", 5);
    }

    private static void gap(Check check, int pages, String runs, int want) {
        new Space(check, pages, 8, runs).longestGap().gives(want);
    }

    private static void noPageFree(Check check) {
        check.sentence("0 if no page is free,");
        for (int pages : new int[] {16, 17, 256}) {
            Space full = new Space(check, pages, 2, "0+" + pages + ":0:0");
            full.longestGap().gives(0);
            full.unmap(pages - 1, 1).gives(1);
            full.longestGap().gives(1);
            full.mapNew(pages - 1, 1, 7, 8191).gives(0);
            full.longestGap().gives(0);
            full.unmap(0, 1).gives(1);
            full.longestGap().gives(1);
            gap(check, pages, "0+1:1:0 1+" + (pages - 1) + ":2:0", 0);
        }
    }

    private static void everyPageFree(Check check) {
        check.sentence("P if every page is free.");
        for (int pages : new int[] {16, 17, 255, 256}) {
            Space space = new Space(check, pages, 2);
            space.longestGap().gives(pages);
            space.mapNew(0, pages, 0, 0).gives(0);
            space.unmap(0, pages).gives(pages);
            space.longestGap().gives(pages);
        }
    }

    private static void nothingChanges(Check check) {
        check.sentence("Nothing changes.");
        Space space = new Space(check, 16, 2, "1+2:0:0 15+1:7:8191");
        space.longestGap().gives(12);
        space.longestGap().gives(12);
        space.is("1+2:0:0 15+1:7:8191");
    }
}
