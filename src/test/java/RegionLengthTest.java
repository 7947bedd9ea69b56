/** Promise 14: regionLength. */
public final class RegionLengthTest {
    public static void main(String[] args) {
        Check check = new Check("Promise 14: regionLength");
        noSuchRegion(check);
        lengths(check);
        shortestAndLongest(check);
        noRegions(check);
        nothingChanges(check);
        check.end();
    }

    private static void noSuchRegion(Check check) {
        check.sentence("`regionLength(k)` answers `BAD` if k < 0 or k >= regionCount();");
        for (int count : new int[] {1, 2, 5, 31, 32}) {
            Space space = new Space(check, 96, 32);
            for (int k = 0; k < count; k++) {
                space.mapNew(3 * k + 1, 2, 0, 0).gives(0);
            }
            for (int k : new int[] {-1, -2, count, count + 1, 33, 64, 256, 65536, -65536, Edges.LEAST,
                    Edges.LEAST + 1, Edges.MOST - 1, Edges.MOST}) {
                space.regionLength(k).gives(RegionMap.BAD);
            }
            space.regionLength(0).gives(2);
            space.regionLength(count - 1).gives(2);
            space.unmap(3 * count - 2, 2).gives(2);
            space.regionLength(count - 1).gives(RegionMap.BAD);
        }
    }

    private static void lengths(Check check) {
        check.sentence("else the number of pages of region k, at least 1.");
        Space space = new Space(check, 32, 8, "0+4:3:2040 4+4:3:0 8+4:3:2044 12+4:3:2048 16+4:2:2052");
        lengthsAre(space, 4, 4, 4, 4, 4);
        space.protect(16, 4, 3).gives(4);
        lengthsAre(space, 4, 4, 4, 8);
        space.mapOver(4, 4, 3, 2032).gives(4);
        lengthsAre(space, 4, 4, 4, 8);
        space.move(8, 4, 4).gives(4);
        lengthsAre(space, 8, 8);
        space.unmap(2, 1).gives(1);
        lengthsAre(space, 2, 5, 8);
        space.mapNew(30, 2, 0, 0).gives(0);
        lengthsAre(space, 2, 5, 8, 2);
    }

    private static void lengthsAre(Space space, int... lengths) {
        for (int k = 0; k < lengths.length; k++) {
            space.regionLength(k).gives(lengths[k]);
        }
        space.regionLength(lengths.length).gives(RegionMap.BAD);
    }

    private static void shortestAndLongest(Check check) {
        check.sentence("else the number of pages of region k, at least 1.");
        for (int pages : new int[] {16, 17, 256}) {
            Space one = new Space(check, pages, 2, "0+1:0:0 " + (pages - 1) + "+1:0:0");
            lengthsAre(one, 1, 1);
            lengthsAre(new Space(check, pages, 2, "0+" + pages + ":0:0"), pages);
            lengthsAre(new Space(check, pages, 2, "0+" + pages + ":0:1024"), pages);
            lengthsAre(new Space(check, pages, 2, "0+1:0:0 1+" + (pages - 1) + ":0:1024"), 1, pages - 1);
        }
        Space single = new Space(check, 16, 16);
        for (int page = 0; page < 16; page++) {
            single.mapNew(page, 1, page % 2, 0).gives(0);
        }
        for (int k = 0; k < 16; k++) {
            single.regionLength(k).gives(1);
        }
    }

    private static void noRegions(Check check) {
        check.sentence("With no regions every k gives `BAD`.");
        Space space = new Space(check, 256, 32);
        for (int k = -2; k <= 257; k++) {
            space.regionLength(k).gives(RegionMap.BAD);
        }
        space.regionLength(Edges.LEAST).gives(RegionMap.BAD);
        space.regionLength(Edges.MOST).gives(RegionMap.BAD);
        space.mapNew(0, 256, 0, 0).gives(0);
        space.regionLength(0).gives(256);
        space.unmap(0, 256).gives(256);
        space.regionLength(0).gives(RegionMap.BAD);
        space.regionLength(-1).gives(RegionMap.BAD);
    }

    private static void nothingChanges(Check check) {
        check.sentence("Nothing changes.");
        Space space = new Space(check, 16, 2, "1+2:0:0 15+1:7:8191");
        for (int k = -1; k <= 2; k++) {
            int first = space.regionLength(k).got();
            space.regionLength(k).gives(first);
        }
        space.is("1+2:0:0 15+1:7:8191");
    }
}
