/** Words used: ranges, mapping attributes and filling. */
public final class RangeWordsTest {
    private interface RangeCall {
        Space.Answer on(Space space, int start, int len);
    }

    private interface FillingCall {
        Space.Answer on(Space space, int len, int prot, int backing);
    }

    /** Every call that takes a range, in each place where it takes one. */
    private static final RangeCall[] RANGE_CALLS = {
        (space, start, len) -> space.mapNew(start, len, 0, 0),
        (space, start, len) -> space.mapOver(start, len, 0, 0),
        Space::unmap,
        (space, start, len) -> space.protect(start, len, 0),
        (space, start, len) -> space.move(start, len, 0),
        (space, start, len) -> space.move(0, len, start),
        (space, start, len) -> space.moveFree(start, len, 0),
    };

    /** Every call that fills, each at the first pages of an empty space of 16. */
    private static final FillingCall[] FILLING_CALLS = {
        (space, len, prot, backing) -> space.mapNew(0, len, prot, backing),
        (space, len, prot, backing) -> space.mapOver(0, len, prot, backing),
        (space, len, prot, backing) -> space.mapLow(0, len, prot, backing),
        (space, len, prot, backing) -> space.mapHigh(Math.max(1, Math.min(16, len)), len, prot, backing),
    };

    public static void main(String[] args) {
        Check check = new Check("Words used");
        pagesOfARange(check);
        properRanges(check);
        hugeRanges(check);
        properProtections(check);
        properBackings(check);
        longestFill(check);
        neverProperBackings(check);
        filling(check);
        whatWasThereIsLost(check);
        otherPagesStay(check);
        check.end();
    }

    private static void pagesOfARange(Check check) {
        check.sentence("The range (start, len) is the pages start .. start+len-1.");
        for (int start = 0; start < 16; start++) {
            for (int len = 1; start + len <= 16; len++) {
                Space space = new Space(check, 16, 4);
                space.mapNew(start, len, 1, 0).gives(0);
                only(space, start, len, 1, RegionMap.FREE);
                space.mapOver(0, 16, 2, 0).gives(len);
                space.mapOver(start, len, 3, 0).gives(len);
                only(space, start, len, 3, 2);
                space.protect(start, len, 5).gives(len);
                only(space, start, len, 5, 2);
                space.unmap(start, len).gives(len);
                only(space, start, len, RegionMap.FREE, 2);
            }
        }
    }

    /** That the pages of the range have the one protection, and all others the other. */
    private static void only(Space space, int start, int len, int inside, int outside) {
        for (int page = 0; page < 16; page++) {
            space.protOf(page).gives(page >= start && page <= start + len - 1 ? inside : outside);
        }
    }

    private static void properRanges(Check check) {
        check.sentence("It is PROPER if start >= 0, len >= 1 and start + len <= P.");
        for (int pages : new int[] {16, 17, 256}) {
            int[][] byOne = {
                {-1, 1}, {-1, pages + 1}, {0, 0}, {pages - 1, 0}, {0, -1}, {0, pages + 1}, {1, pages}, {pages - 1, 2},
                {pages, 1},
            };
            Space empty = new Space(check, pages, 2);
            Space full = new Space(check, pages, 2, "0+" + pages + ":0:0");
            for (RangeCall call : RANGE_CALLS) {
                for (int[] range : byOne) {
                    call.on(empty, range[0], range[1]).gives(RegionMap.BAD);
                    call.on(full, range[0], range[1]).gives(RegionMap.BAD);
                }
            }
            for (int[] range : Edges.properRanges(pages)) {
                notBad(check, pages, range[0], range[1]);
            }
        }
    }

    private static void notBad(Check check, int pages, int start, int len) {
        Space empty = new Space(check, pages, 2);
        empty.protect(start, len, 0).gives(RegionMap.HOLE);
        empty.move(start, len, 0).gives(RegionMap.HOLE);
        empty.move(0, len, start).gives(RegionMap.HOLE);
        empty.moveFree(start, len, 0).gives(RegionMap.HOLE);
        empty.unmap(start, len).gives(0);
        empty.mapNew(start, len, 0, 0).gives(0);
        empty.mapOver(start, len, 0, 0).gives(len);
        empty.protect(start, len, 0).gives(0);
        empty.move(start, len, start).gives(0);
        empty.unmap(start, len).gives(len);
    }

    private static void hugeRanges(Check check) {
        check.sentence("The sum is taken as an exact integer without wrap-around, so very large arguments never"
            + " make a range proper.");
        for (int pages : new int[] {16, 17, 256}) {
            Space empty = new Space(check, pages, 2);
            Space full = new Space(check, pages, 2, "0+" + pages + ":0:0");
            for (RangeCall call : RANGE_CALLS) {
                for (int[] range : Edges.improperRanges(pages)) {
                    call.on(empty, range[0], range[1]).gives(RegionMap.BAD);
                    call.on(full, range[0], range[1]).gives(RegionMap.BAD);
                }
            }
        }
    }

    private static void properProtections(Check check) {
        check.sentence("(len, prot, backing) are PROPER if 0 <= prot <= 7");
        for (FillingCall call : FILLING_CALLS) {
            for (int prot : Edges.improperProts()) {
                call.on(new Space(check, 16, 2), 1, prot, 0).gives(RegionMap.BAD);
                call.on(new Space(check, 16, 2), 16, prot, 8000).gives(RegionMap.BAD);
            }
            for (int prot = 0; prot <= 7; prot++) {
                call.on(new Space(check, 16, 2), 1, prot, 0).gives(0);
                call.on(new Space(check, 16, 2), 16, prot, 8000).gives(0);
            }
        }
    }

    private static void properBackings(Check check) {
        check.sentence("and either backing is 0, or 1024 <= backing <= 8191 and (backing % 1024) + len <= 1024"
            + " (exact sum, without wrap-around).");
        for (FillingCall call : FILLING_CALLS) {
            for (int[] row : Edges.improperBackings()) {
                call.on(new Space(check, 16, 2), row[0], 0, row[1]).gives(RegionMap.BAD);
            }
            for (int[] row : Edges.properBackings()) {
                call.on(new Space(check, 16, 2), row[0], 0, row[1]).gives(0);
            }
            // More pages than there are, with and without a sum that wraps around.
            for (int len : new int[] {17, 1024, 1025, Edges.MOST - 1022, Edges.MOST - 1, Edges.MOST}) {
                for (int[] row : Edges.properBackings()) {
                    call.on(new Space(check, 16, 2), len, 0, row[1]).gives(RegionMap.BAD);
                }
            }
        }
    }

    /** Where an object ends within a fill, for every length; with one page, the next object begins there. */
    private static void longestFill(Check check) {
        check.sentence("and either backing is 0, or 1024 <= backing <= 8191 and (backing % 1024) + len <= 1024"
            + " (exact sum, without wrap-around).");
        for (int object = 1; object <= 7; object++) {
            for (int len = 2; len <= 256; len++) {
                int last = 1024 * object + 1024 - len;
                Space space = new Space(check, 256, 2);
                space.mapNew(0, len, 1, last + 1).gives(RegionMap.BAD);
                space.mapOver(256 - len, len, 1, last + 1).gives(RegionMap.BAD);
                space.mapLow(0, len, 1, last + 1).gives(RegionMap.BAD);
                space.mapHigh(256, len, 1, last + 1).gives(RegionMap.BAD);
                space.mapNew(0, len, 1, last).gives(0);
                space.backingOf(len - 1).gives(1024 * object + 1023);
            }
        }
    }

    private static void neverProperBackings(Check check) {
        check.sentence(
            "So a negative backing, a backing 1 .. 1023, and a backing above 8191 are never proper.");
        for (FillingCall call : FILLING_CALLS) {
            Space space = new Space(check, 16, 2);
            for (int backing = 1; backing <= 1023; backing++) {
                call.on(space, 1, 0, backing).gives(RegionMap.BAD);
                call.on(space, 1, 0, -backing).gives(RegionMap.BAD);
                call.on(space, 1, 0, 8191 + backing).gives(RegionMap.BAD);
            }
            for (int thousand = 1; thousand <= 64; thousand++) {
                call.on(space, 1, 0, -1024 * thousand).gives(RegionMap.BAD);
                call.on(space, 1, 0, 7168 + 1024 * thousand).gives(RegionMap.BAD);
            }
            call.on(space, 1, 0, Edges.LEAST).gives(RegionMap.BAD);
            call.on(space, 1, 0, Edges.LEAST + 1024).gives(RegionMap.BAD);
            call.on(space, 1, 0, Edges.MOST).gives(RegionMap.BAD);
            call.on(space, 1, 0, Edges.MOST - 1023).gives(RegionMap.BAD);
            space.is("");
        }
    }

    private static void filling(Check check) {
        check.sentence("To FILL a proper range (start, len) with prot and backing means: for each i = 0 .. len-1,"
            + " page start+i becomes mapped with protection prot and with backing 0 if backing is 0, else"
            + " backing + i.");
        for (FillingCall call : FILLING_CALLS) {
            for (int len : new int[] {1, 2, 15, 16}) {
                for (int backing : new int[] {0, 1024, 2048 - len, 2048, 8192 - len}) {
                    Space space = new Space(check, 16, 2);
                    call.on(space, len, 6, backing).gives(0);
                    for (int i = 0; i < 16; i++) {
                        space.protOf(i).gives(i < len ? 6 : RegionMap.FREE);
                        space.backingOf(i).gives(i >= len ? RegionMap.FREE : backing == 0 ? 0 : backing + i);
                    }
                }
            }
        }
    }

    private static void whatWasThereIsLost(Check check) {
        check.sentence("Whatever the page was before is lost.");
        Space space = new Space(check, 16, 8, "2+3:7:8189 5+3:1:0 8+2:0:2048");
        space.mapOver(2, 8, 3, 0).gives(8);
        space.is("2+8:3:0");
        space.mapOver(2, 8, 0, 1024).gives(8);
        space.is("2+8:0:1024");
        space.mapOver(2, 8, 0, 0).gives(8);
        space.is("2+8:0:0");
        // Nothing comes back when the page is freed and mapped again.
        space.unmap(2, 8).gives(8);
        space.mapNew(4, 2, 5, 0).gives(0);
        space.is("4+2:5:0");
    }

    private static void otherPagesStay(Check check) {
        check.sentence("All other pages stay as they are.");
        String runs = "0+5:1:2030 11+5:2:0";
        for (int start = 5; start < 11; start++) {
            for (int len = 1; start + len <= 11; len++) {
                String want = "0+5:1:2030 " + start + "+" + len + ":4:1100 11+5:2:0";
                Space fresh = new Space(check, 16, 4, runs);
                fresh.mapNew(start, len, 4, 1100).gives(0);
                fresh.is(want);
                Space over = new Space(check, 16, 4, runs);
                over.mapOver(start, len, 4, 1100).gives(0);
                over.is(want);
                Space low = new Space(check, 16, 4, runs);
                low.mapLow(start, len, 4, 1100).gives(start);
                low.is(want);
                Space high = new Space(check, 16, 4, runs);
                high.mapHigh(start + len, len, 4, 1100).gives(start);
                high.is(want);
            }
        }
    }
}
