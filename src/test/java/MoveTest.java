/** Promise 8: move. */
public final class MoveTest {
    public static void main(String[] args) {
        Check check = new Check("Promise 8: move");
        partsOfSeveralRegions(check);
        improperRanges(check);
        holes(check);
        tooManyRegions(check);
        exactlyAllRegions(check);
        carriesBothAttributes(check);
        pagesLeftBecomeFree(check);
        otherPagesStay(check);
        countsWhatItReplaces(check);
        destinationFreeOrMapped(check);
        overlaps(check);
        everyMoveOfAFullSpace(check);
        equalRanges(check);
        inThisOrder(check);
        check.end();
    }

    private static void partsOfSeveralRegions(Check check) {
        check.sentence(
            "`move(start, len, to)` moves a range, which may hold parts of several regions, to a chosen place.");
        Space space = new Space(check, 32, 8, "4+4:3:1024 8+4:0:0");
        space.move(6, 4, 20).gives(0);
        space.is("4+2:3:1024 10+2:0:0 20+2:3:1026 22+2:0:0");
        space.move(20, 4, 6).gives(0);
        space.is("4+4:3:1024 8+4:0:0");
        space.regionCount().gives(2);
        space.move(4, 8, 24).gives(0);
        space.move(24, 8, 0).gives(0);
        space.is("0+4:3:1024 4+4:0:0");
    }

    private static void improperRanges(Check check) {
        check.sentence("`BAD` if (start, len) is not proper or (to, len) is not proper.");
        for (int pages : new int[] {16, 32, 256}) {
            Space full = new Space(check, pages, 2, "0+" + pages + ":1:0");
            Space empty = new Space(check, pages, 2);
            for (int[] range : Edges.improperRanges(pages)) {
                for (Space space : new Space[] {full, empty}) {
                    space.move(range[0], range[1], 0).gives(RegionMap.BAD);
                    space.move(range[0], range[1], pages - 1).gives(RegionMap.BAD);
                    space.move(0, range[1], range[0]).gives(RegionMap.BAD);
                    space.move(1, range[1], range[0]).gives(RegionMap.BAD);
                    space.move(range[0], range[1], range[0]).gives(RegionMap.BAD);
                }
            }
            full.is("0+" + pages + ":1:0");
            for (int[] range : Edges.properRanges(pages)) {
                full.move(range[0], range[1], range[0]).gives(0);
            }
            Space ends = new Space(check, pages, 2, "0+1:1:0");
            ends.move(0, 1, pages - 1).gives(0);
            ends.is((pages - 1) + "+1:1:0");
            ends.move(pages - 1, 1, 0).gives(0);
            ends.is("0+1:1:0");
        }
    }

    private static void holes(Check check) {
        check.sentence("`HOLE` if any page of (start, len) is free.");
        Space empty = new Space(check, 32, 2);
        empty.move(0, 1, 5).gives(RegionMap.HOLE);
        empty.move(0, 32, 0).gives(RegionMap.HOLE);
        for (int page = 10; page < 15; page++) {
            Space space = new Space(check, 32, 8, "0+32:3:0");
            space.unmap(page, 1).gives(1);
            space.move(10, 5, 20).gives(RegionMap.HOLE);
            space.move(10, 5, 11).gives(RegionMap.HOLE);
            space.move(page, 1, 0).gives(RegionMap.HOLE);
            space.move(10, 5, 10).gives(RegionMap.HOLE);
        }
        Space space = new Space(check, 32, 8, "10+5:0:0");
        space.move(9, 2, 20).gives(RegionMap.HOLE);
        space.move(14, 2, 20).gives(RegionMap.HOLE);
        space.move(10, 5, 20).gives(0);
        space.is("20+5:0:0");
    }

    private static void tooManyRegions(Check check) {
        check.sentence("`FULL` if the map after the move would have more than R regions.");
        Space one = new Space(check, 32, 2, "4+8:3:0");
        one.move(6, 2, 20).gives(RegionMap.FULL);
        Space three = new Space(check, 32, 3, "4+2:3:0 8+4:3:0 20+2:3:0");
        three.move(9, 1, 30).gives(RegionMap.FULL);
        three.move(8, 1, 30).gives(RegionMap.FULL);
        three.move(11, 1, 30).gives(RegionMap.FULL);
        three.is("4+2:3:0 8+4:3:0 20+2:3:0");
        Space onto = new Space(check, 32, 2, "4+4:3:0 10+8:1:0");
        onto.move(4, 4, 12).gives(RegionMap.FULL);
        onto.move(4, 1, 10).gives(RegionMap.FULL);
        onto.is("4+4:3:0 10+8:1:0");
        Space many = new Space(check, 128, 32);
        for (int k = 0; k < 32; k++) {
            many.mapNew(3 * k, 2, 3, 0).gives(0);
        }
        many.move(0, 1, 127).gives(RegionMap.FULL);
        many.move(93, 1, 127).gives(RegionMap.FULL);
        many.move(94, 1, 127).gives(RegionMap.FULL);
        many.regionCount().gives(32);
    }

    private static void exactlyAllRegions(Check check) {
        check.sentence("`FULL` if the map after the move would have more than R regions.");
        Space space = new Space(check, 32, 3, "4+8:3:0");
        space.move(6, 2, 20).gives(0);
        space.is("4+2:3:0 8+4:3:0 20+2:3:0");
        space.move(20, 2, 25).gives(0);
        space.move(4, 2, 14).gives(0);
        space.is("8+4:3:0 14+2:3:0 25+2:3:0");
        space.move(8, 1, 24).gives(0);
        space.is("9+3:3:0 14+2:3:0 24+3:3:0");
        space.move(10, 1, 13).gives(RegionMap.FULL);
        space.move(9, 3, 11).gives(0);
        space.is("11+5:3:0 24+3:3:0");
        // The source alone, taken away or put down, would leave more; the whole move does not.
        Space onto = new Space(check, 32, 2, "4+3:1:0 10+3:2:0");
        onto.move(5, 2, 11).gives(RegionMap.FULL);
        onto.move(4, 3, 10).gives(3);
        onto.is("10+3:1:0");
    }

    private static void carriesBothAttributes(Check check) {
        check.sentence("for i = 0 .. len-1, page to+i becomes mapped with the protection and the backing that"
            + " page start+i has in old;");
        Space space = new Space(check, 32, 8, "2+1:0:0 3+1:7:8191 4+2:5:2046 6+1:0:1024");
        space.move(2, 5, 20).gives(0);
        space.is("20+1:0:0 21+1:7:8191 22+2:5:2046 24+1:0:1024");
        space.move(21, 3, 0).gives(0);
        space.is("0+1:7:8191 1+2:5:2046 20+1:0:0 24+1:0:1024");
        Space large = new Space(check, 256, 2, "0+128:6:1030");
        large.move(0, 128, 128).gives(0);
        large.is("128+128:6:1030");
    }

    private static void pagesLeftBecomeFree(Check check) {
        check.sentence("every page of (start, len) that is not in (to, len) becomes free;");
        Space space = new Space(check, 32, 8, "4+6:3:1024");
        space.move(4, 6, 20).gives(0);
        for (int page = 4; page < 10; page++) {
            space.protOf(page).gives(RegionMap.FREE);
            space.backingOf(page).gives(RegionMap.FREE);
        }
        space.move(20, 6, 22).gives(0);
        space.protOf(20).gives(RegionMap.FREE);
        space.protOf(21).gives(RegionMap.FREE);
        space.backingOf(21).gives(RegionMap.FREE);
        space.protOf(22).gives(3);
        space.move(22, 6, 21).gives(0);
        space.protOf(27).gives(RegionMap.FREE);
        space.backingOf(27).gives(RegionMap.FREE);
        space.protOf(26).gives(3);
        space.is("21+6:3:1024");
    }

    private static void otherPagesStay(Check check) {
        check.sentence("all other pages stay as they are.");
        Space space = new Space(check, 16, 8, "0+3:1:2030 3+4:2:0 9+2:0:8180 13+3:5:1024");
        space.move(3, 2, 11).gives(0);
        space.is("0+3:1:2030 5+2:2:0 9+2:0:8180 11+2:2:0 13+3:5:1024");
        space.move(9, 2, 1).gives(2);
        space.is("0+1:1:2030 1+2:0:8180 5+2:2:0 11+2:2:0 13+3:5:1024");
    }

    private static void countsWhatItReplaces(Check check) {
        check.sentence(
            "The answer is how many pages that are in (to, len) but not in (start, len) were mapped in old.");
        Space space = new Space(check, 32, 8, "0+4:1:1024 10+2:2:0 13+4:2:0");
        space.move(0, 4, 10).gives(3);
        space.is("10+4:1:1024 14+3:2:0");
        space.move(10, 2, 15).gives(2);
        space.is("12+2:1:1026 14+1:2:0 15+2:1:1024");
        space.move(12, 3, 15).gives(2);
        Space overlap = new Space(check, 32, 8, "4+6:1:0 10+1:2:0 12+1:3:0");
        overlap.move(4, 6, 7).gives(2);
        overlap.is("7+6:1:0");
        overlap.move(7, 6, 6).gives(0);
        overlap.move(6, 6, 7).gives(0);
        Space full = new Space(check, 16, 8, "0+8:1:0 8+8:2:0");
        full.move(0, 8, 8).gives(8);
        full.is("8+8:1:0");
        Space shift = new Space(check, 16, 8, "0+16:1:0");
        shift.move(0, 15, 1).gives(1);
        shift.is("1+15:1:0");
        shift.move(1, 15, 0).gives(0);
        shift.is("0+15:1:0");
    }

    private static void destinationFreeOrMapped(Check check) {
        check.sentence("Pages of the destination may be free or mapped; what was mapped there is replaced.");
        Space space = new Space(check, 32, 8, "0+4:1:1024 10+1:2:0 12+1:3:2048");
        space.move(0, 4, 9).gives(2);
        space.is("9+4:1:1024");
        Space cut = new Space(check, 32, 8, "0+2:1:0 10+6:3:2040");
        cut.move(0, 2, 12).gives(2);
        cut.is("10+2:3:2040 12+2:1:0 14+2:3:2044");
    }

    private static void overlaps(Check check) {
        check.sentence("The two ranges may overlap; every page moved carries its attributes from old.");
        Space space = new Space(check, 32, 8, "4+4:3:1024 8+2:1:0 10+1:5:8191");
        space.move(4, 6, 5).gives(1);
        space.is("5+4:3:1024 9+2:1:0");
        space.move(5, 6, 3).gives(0);
        space.is("3+4:3:1024 7+2:1:0");
        space.mapNew(1, 1, 6, 0).gives(0);
        space.move(3, 5, 1).gives(1);
        space.is("1+4:3:1024 5+1:1:0 8+1:1:0");
        space.move(1, 5, 5).gives(1);
        space.is("5+4:3:1024 9+1:1:0");
        space.move(5, 5, 10).gives(0);
        space.is("10+4:3:1024 14+1:1:0");
        space.move(10, 5, 6).gives(0);
        space.is("6+4:3:1024 10+1:1:0");
    }

    /** Every start, length and destination, where no two pages are alike. */
    private static void everyMoveOfAFullSpace(Check check) {
        check.sentence("The two ranges may overlap; every page moved carries its attributes from old.");
        for (int start = 0; start < 16; start++) {
            for (int len = 1; start + len <= 16; len++) {
                for (int to = 0; to + len <= 16; to++) {
                    RegionMap map = new RegionMap(16, 32);
                    for (int page = 0; page < 16; page++) {
                        map.mapNew(page, 1, page % 8, 1024 + 100 * page);
                    }
                    String call = "move(" + start + ", " + len + ", " + to + ")";
                    check.due(call, map.move(start, len, to), Math.min(len, Math.abs(to - start)));
                    for (int page = 0; page < 16; page++) {
                        boolean moved = page >= to && page < to + len;
                        boolean left = !moved && page >= start && page < start + len;
                        int old = moved ? page - to + start : page;
                        check.due("protOf(" + page + ") after " + call, map.protOf(page),
                            left ? RegionMap.FREE : old % 8);
                        check.due("backingOf(" + page + ") after " + call, map.backingOf(page),
                            left ? RegionMap.FREE : 1024 + 100 * old);
                    }
                }
            }
        }
    }

    private static void equalRanges(Check check) {
        check.sentence("The two ranges may be equal: then, if the call is not refused with `BAD` or `HOLE`,"
            + " nothing changes and the answer is 0.");
        Space space = new Space(check, 32, 2, "4+4:3:1024 8+4:0:0");
        space.move(5, 5, 5).gives(0);
        space.move(4, 8, 4).gives(0);
        space.move(11, 1, 11).gives(0);
        space.is("4+4:3:1024 8+4:0:0");
        space.move(3, 5, 3).gives(RegionMap.HOLE);
        space.move(11, 2, 11).gives(RegionMap.HOLE);
        space.move(31, 2, 31).gives(RegionMap.BAD);
        space.move(4, 0, 4).gives(RegionMap.BAD);
        Space full = new Space(check, 256, 2, "0+256:7:1024");
        full.move(0, 256, 0).gives(0);
        full.is("0+256:7:1024");
    }

    private static void inThisOrder(Check check) {
        check.sentence("In this order:");
        Space space = new Space(check, 32, 2, "4+8:3:0 20+4:3:0");
        // BAD and HOLE.
        space.move(0, 2, 31).gives(RegionMap.BAD);
        space.move(0, 2, -1).gives(RegionMap.BAD);
        space.move(31, 2, 0).gives(RegionMap.BAD);
        space.move(-1, 2, 0).gives(RegionMap.BAD);
        space.move(0, 1, Edges.MOST).gives(RegionMap.BAD);
        // BAD and FULL.
        space.move(6, 2, 31).gives(RegionMap.BAD);
        space.move(6, 2, -1).gives(RegionMap.BAD);
        space.move(6, 2, Edges.LEAST).gives(RegionMap.BAD);
        // HOLE and FULL: the mapped pages of the range alone would make a third region.
        space.move(11, 2, 28).gives(RegionMap.HOLE);
        space.move(3, 3, 28).gives(RegionMap.HOLE);
        space.move(10, 12, 0).gives(RegionMap.HOLE);
        // All three.
        space.move(11, 2, 31).gives(RegionMap.BAD);
        space.move(6, 2, 28).gives(RegionMap.FULL);
        space.is("4+8:3:0 20+4:3:0");
    }
}
