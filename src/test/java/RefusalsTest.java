import java.util.Arrays;

/** Words used: the refusals, of all the calls that may change the map. */
public final class RefusalsTest {
    private static final int BAD = RegionMap.BAD;
    private static final int HOLE = RegionMap.HOLE;
    private static final int TAKEN = RegionMap.TAKEN;
    private static final int NO_ROOM = RegionMap.NO_ROOM;
    private static final int FULL = RegionMap.FULL;

    private interface Call {
        Space.Answer on(Space space);
    }

    private record Refused(Call call, int want) { }

    private record Done(Call call, int want, String runs) { }

    /** Each refusal of each call, on the map that limit makes. */
    private static final Refused[] REFUSED = {
        new Refused(space -> space.mapNew(5, 12, 0, 0), BAD),
        new Refused(space -> space.mapNew(3, 4, 1, 0), TAKEN),
        new Refused(space -> space.mapNew(6, 1, 1, 0), FULL),
        new Refused(space -> space.mapOver(0, 17, 0, 0), BAD),
        new Refused(space -> space.mapOver(2, 1, 0, 0), FULL),
        new Refused(space -> space.mapLow(0, 1, 0, 1), BAD),
        new Refused(space -> space.mapLow(0, 4, 0, 0), NO_ROOM),
        new Refused(space -> space.mapLow(0, 3, 0, 0), FULL),
        new Refused(space -> space.mapHigh(16, 1, 0, 1), BAD),
        new Refused(space -> space.mapHigh(16, 4, 0, 0), NO_ROOM),
        new Refused(space -> space.mapHigh(16, 3, 0, 0), FULL),
        new Refused(space -> space.unmap(0, 0), BAD),
        new Refused(space -> space.unmap(2, 1), FULL),
        new Refused(space -> space.protect(0, 5, 8), BAD),
        new Refused(space -> space.protect(0, 6, 0), HOLE),
        new Refused(space -> space.protect(0, 4, 0), FULL),
        new Refused(space -> space.move(0, 5, 12), BAD),
        new Refused(space -> space.move(0, 6, 8), HOLE),
        new Refused(space -> space.move(0, 2, 6), FULL),
        new Refused(space -> space.moveFree(0, 5, 16), BAD),
        new Refused(space -> space.moveFree(0, 6, 0), HOLE),
        new Refused(space -> space.moveFree(0, 5, 0), NO_ROOM),
        new Refused(space -> space.moveFree(1, 3, 0), FULL),
    };

    /** Each call carried out on the same map, with what it leaves. */
    private static final Done[] DONE = {
        new Done(space -> space.mapNew(5, 1, 1, 0), 0, "0+6:1:0 8+8:3:1024"),
        new Done(space -> space.mapOver(4, 4, 1, 0), 1, "0+8:1:0 8+8:3:1024"),
        new Done(space -> space.mapLow(0, 2, 1, 0), 5, "0+7:1:0 8+8:3:1024"),
        new Done(space -> space.mapHigh(16, 3, 1, 0), 5, "0+8:1:0 8+8:3:1024"),
        new Done(space -> space.unmap(4, 2), 1, "0+4:1:0 8+8:3:1024"),
        new Done(space -> space.protect(8, 8, 0), 8, "0+5:1:0 8+8:0:1024"),
        new Done(space -> space.move(0, 5, 1), 0, "1+5:1:0 8+8:3:1024"),
        new Done(space -> space.moveFree(0, 3, 0), 5, "3+5:1:0 8+8:3:1024"),
    };

    public static void main(String[] args) {
        Check check = new Check("Words used, Refusals");
        firstThatApplies(check);
        changesNothingAtAll(check);
        nextCallIsAsIfNoneWasRefused(check);
        fullIsTheLast(check);
        onlyTheFinalMap(check);
        exactlyAllRegions(check);
        signsOfTheAnswers(check);
        check.end();
    }

    private static void firstThatApplies(Check check) {
        check.sentence("Each call that may change the map lists its refusals in the order in which they are"
            + " decided: the first that applies is the answer,");
        Space space = limit(check);
        // At 5 to 7 there is a hole, and there is no room for four pages.
        space.mapNew(1, 2, 8, 0).gives(BAD);
        space.mapNew(4, 2, 2, 0).gives(TAKEN);
        space.mapNew(5, 2, 8, 0).gives(BAD);
        space.mapOver(1, 2, 8, 0).gives(BAD);
        space.mapLow(0, 4, 8, 0).gives(BAD);
        space.mapLow(5, 1, 8, 0).gives(BAD);
        space.mapHigh(16, 4, 8, 0).gives(BAD);
        space.mapHigh(8, 1, 8, 0).gives(BAD);
        space.unmap(-1, 3).gives(BAD);
        space.protect(4, 2, 8).gives(BAD);
        space.protect(4, 2, 2).gives(HOLE);
        space.protect(1, 2, 8).gives(BAD);
        space.move(4, 2, 15).gives(BAD);
        space.move(4, 2, 6).gives(HOLE);
        space.move(1, 2, 15).gives(BAD);
        space.moveFree(4, 4, 16).gives(BAD);
        space.moveFree(4, 4, 0).gives(HOLE);
        space.moveFree(4, 2, 5).gives(HOLE);
        space.moveFree(0, 4, 16).gives(BAD);
        space.moveFree(0, 4, 0).gives(NO_ROOM);
        space.moveFree(1, 2, 16).gives(BAD);
        isLimit(space);
    }

    /** Two regions where two are allowed, with three free pages between them. */
    private static Space limit(Check check) {
        return new Space(check, 16, 2, "0+5:1:0 8+8:3:1024");
    }

    private static void isLimit(Space space) {
        space.is("0+5:1:0 8+8:3:1024");
        space.regionCount().gives(2);
        space.regionStart(1).gives(8);
        space.regionLength(0).gives(5);
        space.regionLength(1).gives(8);
        space.longestGap().gives(3);
        space.findLow(0, 3).gives(5);
        space.findHigh(16, 3).gives(5);
    }

    private static void changesNothingAtAll(Check check) {
        check.sentence("and a refused call changes nothing at all.");
        Space space = limit(check);
        for (int round = 0; round < 2; round++) {
            for (Refused refused : REFUSED) {
                refused.call().on(space).gives(refused.want());
                isLimit(space);
            }
        }
        Space empty = new Space(check, 16, 2);
        everyRefusalOfAnEmptyMap(empty);
        empty.is("");
        empty.regionCount().gives(0);
        empty.longestGap().gives(16);
    }

    /** A trace may be hidden until the next change, so each refusal comes before each kind of change. */
    private static void nextCallIsAsIfNoneWasRefused(Check check) {
        check.sentence("and a refused call changes nothing at all.");
        for (Refused refused : REFUSED) {
            for (Done done : DONE) {
                Space space = limit(check);
                refused.call().on(space).gives(refused.want());
                done.call().on(space).gives(done.want());
                space.is(done.runs());
            }
        }
    }

    private static void everyRefusalOfAnEmptyMap(Space space) {
        space.mapNew(0, 17, 0, 0).gives(BAD);
        space.mapOver(0, 17, 0, 0).gives(BAD);
        space.mapLow(0, 17, 0, 0).gives(BAD);
        space.mapLow(1, 16, 0, 0).gives(NO_ROOM);
        space.mapHigh(16, 17, 0, 0).gives(BAD);
        space.mapHigh(15, 16, 0, 0).gives(NO_ROOM);
        space.unmap(0, 17).gives(BAD);
        space.protect(0, 17, 0).gives(BAD);
        space.protect(0, 16, 0).gives(HOLE);
        space.move(0, 16, 1).gives(BAD);
        space.move(0, 16, 0).gives(HOLE);
        space.moveFree(0, 16, 16).gives(BAD);
        space.moveFree(0, 16, 0).gives(HOLE);
    }

    private static void fullIsTheLast(Check check) {
        check.sentence("`FULL` is always the last and means: the map which the call would leave at its end has"
            + " more than R regions.");
        Space space = limit(check);
        space.mapNew(6, 1, 1, 0).gives(FULL);
        space.mapOver(9, 1, 3, 0).gives(FULL);
        space.mapLow(6, 1, 1, 0).gives(FULL);
        space.mapHigh(7, 1, 1, 0).gives(FULL);
        space.unmap(9, 6).gives(FULL);
        space.protect(9, 6, 1).gives(FULL);
        space.move(8, 1, 6).gives(FULL);
        space.moveFree(8, 1, 6).gives(FULL);
        isLimit(space);
        // With one region more allowed, the first of them are carried out; the cuts add two, or do not.
        Space more = new Space(check, 16, 3, "0+5:1:0 8+8:3:1024");
        more.mapOver(9, 1, 3, 0).gives(FULL);
        more.protect(9, 6, 1).gives(FULL);
        more.mapNew(6, 1, 1, 0).gives(0);
        more.unmap(6, 1).gives(1);
        more.unmap(9, 6).gives(6);
        more.is("0+5:1:0 8+1:3:1024 15+1:3:1031");
    }

    private static void onlyTheFinalMap(Check check) {
        check.sentence("Only that final map counts, never anything in between;");
        // Freed first, the pages would leave three regions; and so would the fill, page by page.
        Space over = new Space(check, 16, 2, "0+8:1:0 10+2:1:0");
        over.mapOver(2, 2, 1, 0).gives(2);
        over.mapOver(4, 7, 1, 0).gives(5);
        over.is("0+12:1:0");
        Space backwards = new Space(check, 16, 2, "0+4:1:1024 8+4:1:1032");
        backwards.mapNew(4, 4, 1, 1028).gives(0);
        backwards.is("0+12:1:1024");
        Space low = new Space(check, 16, 2, "0+4:1:1024 8+4:1:1032");
        low.mapLow(0, 4, 1, 1028).gives(4);
        low.is("0+12:1:1024");
        Space high = new Space(check, 16, 2, "0+4:1:1024 8+8:1:1032");
        high.mapHigh(16, 4, 1, 1028).gives(4);
        high.is("0+16:1:1024");
        // Page by page, the first freed or changed would cut a region.
        Space freed = new Space(check, 16, 2, "0+8:1:0 8+8:2:0");
        freed.unmap(1, 8).gives(8);
        freed.is("0+1:1:0 9+7:2:0");
        Space changed = new Space(check, 16, 2, "0+8:1:0 8+8:2:0");
        changed.protect(4, 4, 2).gives(4);
        changed.protect(4, 2, 1).gives(2);
        changed.is("0+6:1:0 6+10:2:0");
        // Put down before it is taken away, or taken away before it is put down.
        Space moved = new Space(check, 16, 2, "0+4:1:0 6+2:1:0");
        moved.move(0, 4, 10).gives(0);
        moved.is("6+2:1:0 10+4:1:0");
        moved.move(10, 4, 11).gives(0);
        moved.is("6+2:1:0 11+4:1:0");
        moved.move(7, 1, 10).gives(0);
        moved.is("6+1:1:0 10+5:1:0");
        Space shifted = new Space(check, 16, 2, "0+4:1:1024 4+4:1:2048");
        shifted.move(1, 6, 1).gives(0);
        shifted.move(0, 8, 3).gives(0);
        shifted.is("3+4:1:1024 7+4:1:2048");
        shifted.moveFree(3, 4, 10).gives(11);
        shifted.is("7+4:1:2048 11+4:1:1024");
    }

    private static void exactlyAllRegions(Check check) {
        check.sentence("a final map with exactly R regions is not refused.");
        for (int regions : new int[] {2, 3, 31, 32}) {
            almost(check, regions).mapNew(127, 1, 3, 0).gives(0);
            almost(check, regions).mapOver(127, 1, 3, 0).gives(0);
            almost(check, regions).mapOver(0, 1, 2, 0).gives(1);
            almost(check, regions).mapLow(127, 1, 3, 0).gives(127);
            almost(check, regions).mapHigh(128, 1, 3, 0).gives(127);
            almost(check, regions).unmap(1, 1).gives(1);
            almost(check, regions).protect(2, 1, 7).gives(1);
            almost(check, regions).move(0, 1, 127).gives(0);
            almost(check, regions).moveFree(0, 1, 127).gives(127);
            Space space = almost(check, regions);
            space.mapNew(127, 1, 3, 0).gives(0);
            space.regionCount().gives(regions);
            space.mapNew(125, 1, 3, 0).gives(FULL);
            space.mapNew(126, 1, 3, 0).gives(0);
            space.unmap(126, 1).gives(1);
            space.protect(127, 1, 2).gives(1);
            space.move(127, 1, 125).gives(0);
            space.moveFree(125, 1, 126).gives(126);
            space.mapOver(126, 1, 5, 1024).gives(1);
            space.regionCount().gives(regions);
        }
    }

    /** One region less than is allowed, each of three pages. */
    private static Space almost(Check check, int regions) {
        Space space = new Space(check, 128, regions);
        for (int k = 0; k < regions - 1; k++) {
            space.mapNew(4 * k, 3, 3, 0).gives(0);
        }
        return space;
    }

    private static void signsOfTheAnswers(Check check) {
        check.sentence("All refusals are negative; every answer of a call that is carried out is >= 0.");
        for (int start = -1; start <= 16; start++) {
            for (int len = 0; len <= 17; len++) {
                for (int other = -1; other <= 8; other++) {
                    among(check, limit(check).mapNew(start, len, other, 0), 0, BAD, TAKEN, FULL);
                    among(check, limit(check).mapOver(start, len, other, 0), len, BAD, FULL);
                    among(check, limit(check).mapLow(start, len, other, 0), 15, BAD, NO_ROOM, FULL);
                    among(check, limit(check).mapHigh(start, len, other, 0), 15, BAD, NO_ROOM, FULL);
                    among(check, limit(check).unmap(start, len), len, BAD, FULL);
                    among(check, limit(check).protect(start, len, other), len, BAD, HOLE, FULL);
                    among(check, limit(check).move(start, len, 2 * other), len, BAD, HOLE, FULL);
                    among(check, limit(check).moveFree(start, len, 2 * other), 15, BAD, HOLE, NO_ROOM, FULL);
                }
            }
        }
    }

    /** That the answer is 0 to the greatest, or one of these refusals, which Space finds to change nothing. */
    private static void among(Check check, Space.Answer answer, int greatest, int... refusals) {
        boolean refused = Arrays.stream(refusals).anyMatch(refusal -> refusal == answer.got() && refusal < 0);
        if (!refused && (answer.got() < 0 || answer.got() > greatest)) {
            check.wrong(answer + " answered " + answer.got());
        }
    }
}
