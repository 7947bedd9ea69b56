/** Promise 7: protect. */
public final class ProtectTest {
    public static void main(String[] args) {
        Check check = new Check("Promise 7: protect");
        changes(check);
        improperRange(check);
        wrongProtection(check);
        holes(check);
        tooManyRegions(check);
        exactlyAllRegions(check);
        countsThoseThatHadAnother(check);
        allHaveItAlready(check);
        pagesOutside(check);
        inThisOrder(check);
        check.end();
    }

    private static void changes(Check check) {
        check.sentence("`protect(start, len, prot)` changes the protection of a range.");
        Space space = new Space(check, 32, 8, "4+16:3:1024");
        space.protect(8, 4, 0).gives(4);
        space.is("4+4:3:1024 8+4:0:1028 12+8:3:1032");
        space.regionCount().gives(3);
        space.protect(8, 4, 3).gives(4);
        space.is("4+16:3:1024");
        space.regionCount().gives(1);
        Space several = new Space(check, 32, 8, "4+4:3:1024 8+4:1:0 12+4:2:1028");
        several.protect(6, 8, 7).gives(8);
        several.is("4+2:3:1024 6+2:7:1026 8+4:7:0 12+2:7:1028 14+2:2:1030");
        Space full = new Space(check, 256, 2, "0+256:0:0");
        full.protect(0, 256, 7).gives(256);
        full.is("0+256:7:0");
    }

    private static void improperRange(Check check) {
        check.sentence("`BAD` if (start, len) is not proper or prot is not 0 .. 7.");
        for (int pages : new int[] {16, 32, 256}) {
            Space empty = new Space(check, pages, 2);
            Space full = new Space(check, pages, 2, "0+" + pages + ":1:0");
            for (int[] range : Edges.improperRanges(pages)) {
                empty.protect(range[0], range[1], 0).gives(RegionMap.BAD);
                full.protect(range[0], range[1], 2).gives(RegionMap.BAD);
                full.protect(range[0], range[1], 1).gives(RegionMap.BAD);
            }
            full.is("0+" + pages + ":1:0");
            for (int[] range : Edges.properRanges(pages)) {
                Space another = new Space(check, pages, 2, "0+" + pages + ":1:0");
                another.protect(range[0], range[1], 0).gives(range[1]);
            }
        }
    }

    private static void wrongProtection(Check check) {
        check.sentence("`BAD` if (start, len) is not proper or prot is not 0 .. 7.");
        Space space = new Space(check, 16, 2, "0+16:1:0");
        for (int prot : Edges.improperProts()) {
            space.protect(0, 1, prot).gives(RegionMap.BAD);
            space.protect(0, 16, prot).gives(RegionMap.BAD);
        }
        space.is("0+16:1:0");
        for (int prot = 0; prot <= 7; prot++) {
            space.protect(0, 16, prot).gives(prot == 1 ? 0 : 16);
            space.is("0+16:" + prot + ":0");
            space.protect(0, 16, 1).gives(prot == 1 ? 0 : 16);
        }
    }

    private static void holes(Check check) {
        check.sentence("`HOLE` if any page of the range is free.");
        Space empty = new Space(check, 32, 2);
        empty.protect(0, 1, 0).gives(RegionMap.HOLE);
        empty.protect(0, 32, 7).gives(RegionMap.HOLE);
        for (int page = 10; page < 15; page++) {
            Space space = new Space(check, 32, 8, "0+32:3:0");
            space.unmap(page, 1).gives(1);
            space.protect(10, 5, 1).gives(RegionMap.HOLE);
            space.protect(10, 5, 3).gives(RegionMap.HOLE);
            space.protect(page, 1, 3).gives(RegionMap.HOLE);
            space.protect(0, 32, 3).gives(RegionMap.HOLE);
            space.protect(0, page, 1).gives(page);
            space.protect(page + 1, 31 - page, 2).gives(31 - page);
        }
        Space zero = new Space(check, 32, 2, "10+5:0:0");
        zero.protect(9, 2, 1).gives(RegionMap.HOLE);
        zero.protect(14, 2, 1).gives(RegionMap.HOLE);
        zero.protect(10, 5, 0).gives(0);
        zero.protect(10, 5, 1).gives(5);
    }

    private static void tooManyRegions(Check check) {
        check.sentence("`FULL` if the map after the change would have more than R regions.");
        Space one = new Space(check, 32, 2, "4+8:3:0");
        one.protect(6, 2, 1).gives(RegionMap.FULL);
        one.protect(5, 6, 1).gives(RegionMap.FULL);
        Space two = new Space(check, 32, 2, "4+2:1:0 6+6:3:0");
        two.protect(11, 1, 2).gives(RegionMap.FULL);
        two.protect(4, 1, 2).gives(RegionMap.FULL);
        two.protect(5, 2, 2).gives(RegionMap.FULL);
        two.is("4+2:1:0 6+6:3:0");
        Space many = new Space(check, 64, 32);
        for (int page = 0; page < 31; page++) {
            many.mapNew(page, 1, page % 2, 0).gives(0);
        }
        many.mapNew(31, 33, 7, 0).gives(0);
        many.protect(63, 1, 6).gives(RegionMap.FULL);
        many.protect(40, 2, 6).gives(RegionMap.FULL);
        many.regionCount().gives(32);
    }

    private static void exactlyAllRegions(Check check) {
        check.sentence("`FULL` if the map after the change would have more than R regions.");
        Space space = new Space(check, 32, 2, "4+8:3:0");
        space.protect(4, 2, 1).gives(2);
        space.is("4+2:1:0 6+6:3:0");
        space.protect(5, 4, 1).gives(3);
        space.is("4+5:1:0 9+3:3:0");
        space.protect(9, 3, 7).gives(3);
        space.is("4+5:1:0 9+3:7:0");
        space.protect(4, 8, 7).gives(5);
        space.is("4+8:7:0");
        // Between two pieces of the same protection: one region in place of three.
        Space three = new Space(check, 32, 3, "4+2:3:1024 6+2:1:1026 8+2:3:1028");
        three.protect(6, 2, 3).gives(2);
        three.is("4+6:3:1024");
    }

    private static void countsThoseThatHadAnother(Check check) {
        check.sentence("Else every page of the range gets protection prot and keeps its backing; the answer is"
            + " how many of them had another protection before the call (0 .. len).");
        Space space = new Space(check, 32, 8, "4+4:3:1024 8+4:0:1028 12+8:3:1032");
        space.protect(6, 4, 0).gives(2);
        space.is("4+2:3:1024 6+6:0:1026 12+8:3:1032");
        space.protect(6, 7, 0).gives(1);
        space.is("4+2:3:1024 6+7:0:1026 13+7:3:1033");
        space.protect(4, 16, 3).gives(7);
        space.is("4+16:3:1024");
        space.protect(4, 16, 2).gives(16);
        space.is("4+16:2:1024");
        Space mixed = new Space(check, 16, 8, "0+1:1:8191 1+1:2:0 2+1:3:1024 3+1:2:0 4+1:5:2047");
        mixed.protect(0, 5, 2).gives(3);
        mixed.is("0+1:2:8191 1+1:2:0 2+1:2:1024 3+1:2:0 4+1:2:2047");
    }

    private static void allHaveItAlready(Check check) {
        check.sentence("If every page of the range has protection prot already, the answer is 0 and nothing"
            + " changes.");
        Space space = new Space(check, 32, 2, "4+4:3:1024 8+4:3:0");
        space.protect(4, 8, 3).gives(0);
        space.protect(7, 2, 3).gives(0);
        space.protect(5, 1, 3).gives(0);
        space.is("4+4:3:1024 8+4:3:0");
        Space zero = new Space(check, 16, 2, "0+16:0:0");
        zero.protect(0, 16, 0).gives(0);
        zero.protect(15, 1, 0).gives(0);
        zero.is("0+16:0:0");
    }

    private static void pagesOutside(Check check) {
        check.sentence("Pages outside the range do not change, and no page becomes free or mapped.");
        Space space = new Space(check, 16, 8, "0+6:1:2030 6+4:2:0 14+2:0:8190");
        space.protect(5, 3, 7).gives(3);
        space.is("0+5:1:2030 5+1:7:2035 6+2:7:0 8+2:2:0 14+2:0:8190");
        space.protect(0, 1, 0).gives(1);
        space.protect(15, 1, 7).gives(1);
        space.is("0+1:0:2030 1+4:1:2031 5+1:7:2035 6+2:7:0 8+2:2:0 14+1:0:8190 15+1:7:8191");
    }

    private static void inThisOrder(Check check) {
        check.sentence("In this order:");
        Space space = new Space(check, 32, 2, "4+8:3:0 20+4:3:0");
        // BAD and HOLE.
        space.protect(0, 2, 8).gives(RegionMap.BAD);
        space.protect(0, 2, -1).gives(RegionMap.BAD);
        space.protect(31, 2, 3).gives(RegionMap.BAD);
        space.protect(-1, 2, 3).gives(RegionMap.BAD);
        // BAD and FULL.
        space.protect(6, 2, 8).gives(RegionMap.BAD);
        space.protect(6, 2, -1).gives(RegionMap.BAD);
        space.protect(6, 2, RegionMap.FREE).gives(RegionMap.BAD);
        // HOLE and FULL: the mapped pages of the range alone would make a third region.
        space.protect(11, 2, 1).gives(RegionMap.HOLE);
        space.protect(3, 3, 1).gives(RegionMap.HOLE);
        space.protect(11, 10, 1).gives(RegionMap.HOLE);
        // All three.
        space.protect(11, 2, 8).gives(RegionMap.BAD);
        space.protect(6, 2, 1).gives(RegionMap.FULL);
        space.is("4+8:3:0 20+4:3:0");
    }
}
