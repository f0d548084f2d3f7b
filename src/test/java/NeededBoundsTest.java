/** Each sentence about ONE, NEEDED and WORST that names a bound (promises 15 to 17). */
public final class NeededBoundsTest {
    private static final int LEAST = Integer.MIN_VALUE, MOST = Integer.MAX_VALUE;
    private static final String EIGHT = "n8;f0 1 1;f1 2 1;f2 3 1;f3 4 1;f4 5 1;f5 6 1;f6 7 1;";
    private static final String EIGHT_POINTS = "c0 1 2 3 4 5 6 7;";

    public static void main(String[] args) {
        oneWithoutACourse();
        oneJustInTime();
        neededWithoutACourse();
        neededOfNoPoint();
        neededAreFrom1To8();
        neededJustInTime();
        whoIsNumberedAsTheirFirstPointsCome();
        whoIsTheFirstOfAllWays();
        neitherSitsNorHedgehogsAreAsked();
        worstOf0To4Furrows();
        worstOfNoPlaceOrWhat();
        worstWhereThereIsNoSuchCourse();
        worstIsTheLeastOfThoseThatNeedMost();
        worstAsIfToldNobodyWaits();
        nothingIsChanged();
        Checks.end();
    }

    /** "ONE: 1, 0 (no COURSE: 1)." */
    private static void oneWithoutACourse() {
        Checks.due("one() of a new object", new AlwaysThere().one(), 1);
        Checks.due("one() without a course", Checks.read("f0 1 1;h1;s9;", 3).one(), 1);
        Checks.due("one() of one point", Checks.read("s9;c0;", 2).one(), 1);
        Checks.due("one() of two points", Checks.read("f0 1 1;s9;c0 1;", 3).one(), 0);
    }

    /** "whether one HEDGEHOG can be at all POINTS when the HARE COMES". */
    private static void oneJustInTime() {
        Checks.due("as fast as the hare", Checks.read("f0 1 9;s1;c0 1 0 1 0 1 0 1;", 3).one(), 1);
        AlwaysThere x = Checks.read("f0 1 9;s2;c0 1;", 3);
        int[] due = {0, 0, 1, 1};
        for (int i = 0; i < due.length; i++) {
            x.waits(0, 7 + i);
            Checks.due("one() when he waits " + (7 + i), x.one(), due[i]);
        }
        AlwaysThere last = Checks.read("f0 1 9;f1 2 1;s2;c0 1 2;", 4);
        last.waits(0, 9);
        Checks.due("one() in time but for the last point", last.one(), 0);
        last.waits(2, 20);
        Checks.due("one() when he waits at the last point", last.one(), 0);
        last.waits(1, 1);
        Checks.due("one() in time at the last point, too", last.one(), 1);
        AlwaysThere tired = Checks.read("f0 1 1;s2;t1;c0 1 0;", 4);
        Checks.due("the first furrow does not tire him", tired.one(), 0);
        tired.waits(0, 1);
        Checks.due("the second one does", tired.one(), 1);
    }

    /** "NEEDED (i = -1; no COURSE: 0)". */
    private static void neededWithoutACourse() {
        AlwaysThere x = new AlwaysThere();
        Checks.due("needed(-1)", x.needed(-1), 0);
        Checks.due("needed(0)", x.needed(0), Checks.BAD);
        Checks.due("needed(-2)", x.needed(-2), Checks.BAD);
        AlwaysThere y = Checks.read("f0 1 1;h1;h1;", 3);
        Checks.due("needed(-1) with hedgehogs, without a course", y.needed(-1), 0);
        AlwaysThere single = Checks.read("c3;", 1);
        Checks.due("needed(-1) of one point", single.needed(-1), 1);
        Checks.due("needed(0) of one point", single.needed(0), 0);
        Checks.due("needed(1) of one point", single.needed(1), Checks.BAD);
    }

    /** "WHO of a POINT. BAD." */
    private static void neededOfNoPoint() {
        AlwaysThere x = Checks.read(EIGHT + EIGHT_POINTS, 9);
        Checks.holds("needed(7)", x.needed(7) >= 0);
        for (int none : new int[] {-2, 8, LEAST, MOST}) {
            Checks.due("needed(" + none + ")", x.needed(none), Checks.BAD);
        }
        AlwaysThere y = Checks.read("f0 1 1;c0 1 0;", 2);
        Checks.due("needed(2)", y.needed(2), 0);
        Checks.due("needed(3)", y.needed(3), Checks.BAD);
    }

    /** "NEEDED: the fewest by whom this can be": one for all POINTS, up to one for each. */
    private static void neededAreFrom1To8() {
        AlwaysThere fast = Checks.read(EIGHT + "s1;" + EIGHT_POINTS, 10);
        Checks.due("one for all", fast.needed(-1), 1);
        AlwaysThere slow = Checks.read(EIGHT + "s2;" + EIGHT_POINTS, 10);
        Checks.due("one for each", slow.needed(-1), 8);
        for (int i = 0; i < 8; i++) {
            Checks.due("needed(" + i + ") by one for all", fast.needed(i), 0);
            Checks.due("needed(" + i + ") by one for each", slow.needed(i), i);
        }
        for (int i = 0; i < 7; i++) {
            slow.waits(i, 1);
            Checks.due("one less for each minute that he waits", slow.needed(-1), 7 - i);
        }
        AlwaysThere asked = Checks.read(EIGHT + "s2;" + EIGHT_POINTS, 10);
        Checks.due("needed(7) asked first of all", asked.needed(7), 7);
        asked.waits(0, 1);
        Checks.due("needed(7) asked at once when he waits", asked.needed(7), 6);
        asked.undo();
        Checks.due("needed(7) asked at once behind undo()", asked.needed(7), 7);
        asked.one();
        asked.worst(0, 1, 0);
        Checks.due("needed(7) asked behind others", asked.needed(7), 7);
    }

    /** "each can go from each of his POINTS to his next one in time". */
    private static void neededJustInTime() {
        AlwaysThere x = Checks.read("f0 1 1;f1 2 1;f0 2 1;s2;c0 1 2;", 5);
        Checks.due("just in time from the first to the third", x.needed(-1), 2);
        Checks.due("needed(2)", x.needed(2), 0);
        AlwaysThere slower = Checks.read("f0 1 1;f1 2 1;f0 2 1;s3;c0 1 2;", 5);
        Checks.due("a minute too late", slower.needed(-1), 3);
        Checks.due("needed(2)", slower.needed(2), 2);
        AlwaysThere stays = Checks.read("f0 1 1;s9;c0 1 0 1 0 1 0 1;", 3);
        Checks.due("who stays is always there", stays.needed(-1), 2);
    }

    /** "WHO of a POINT: numbered as their first POINTS come". */
    private static void whoIsNumberedAsTheirFirstPointsCome() {
        AlwaysThere x = Checks.read("n4;f0 1 1;f1 2 1;f2 3 1;s9;c3 2 1 0 1 2 3;", 6);
        int[] due = {0, 1, 2, 3, 2, 1, 0};
        Checks.due("needed(-1)", x.needed(-1), 4);
        for (int i = 0; i < due.length; i++) {
            Checks.due("needed(" + i + ")", x.needed(i), due[i]);
        }
    }

    /** "of all ways with so few the first (POINT by POINT the lesser number)". */
    private static void whoIsTheFirstOfAllWays() {
        AlwaysThere x = Checks.read("f0 1 1;f1 2 1;s2;c0 1 2;", 4);
        x.waits(1, 2);
        Checks.due("both could go to the third point", x.needed(-1), 2);
        Checks.due("needed(2): the lesser number", x.needed(2), 0);
        AlwaysThere trap = Checks.read("n5;f0 1 2;f1 2 1;f2 3 1;f3 4 1;s3;c2 1 2 3 2 3 4;", 7);
        int[] due = {0, 1, 0, 2, 1, 0, 2};
        Checks.due("the lesser number wherever it can be would need one more", trap.needed(-1), 3);
        for (int i = 0; i < due.length; i++) {
            Checks.due("needed(" + i + ")", trap.needed(i), due[i]);
        }
    }

    /** "(... what SITS is not asked, but by VAIN.)" */
    private static void neitherSitsNorHedgehogsAreAsked() {
        AlwaysThere nobody = Checks.read(EIGHT + EIGHT_POINTS, 9);
        AlwaysThere some = Checks.read(EIGHT + "h1;h1;" + EIGHT_POINTS, 11);
        some.sits(0, 0, 0, 999);
        some.sits(1, 1, 0, 999);
        for (int i = -1; i < 8; i++) {
            Checks.due("needed(" + i + ")", some.needed(i), nobody.needed(i));
        }
        Checks.due("needed(-1): more than there are", some.needed(-1), 8);
        Checks.due("one()", some.one(), nobody.one());
        Checks.due("worst(0, 4, 0)", some.worst(0, 4, 0), nobody.worst(0, 4, 0));
        AlwaysThere still = Checks.read("f0 1 1;h1;s1;c0 1;", 4);
        still.sits(0, 0, 0, 999);
        Checks.due("one() can, though he sits", still.one(), 1);
        Checks.due("fits() can, though he sits", still.fits(), 1);
        Checks.due("sure(1), though he sits at 0", still.sure(1), 0);
    }

    private static void worst(AlwaysThere x, int place, int k, int many, int course) {
        Checks.due("worst(" + place + ", " + k + ", 0)", x.worst(place, k, 0), many);
        Checks.due("worst(" + place + ", " + k + ", 1)", x.worst(place, k, 1), course);
    }

    /** "WORST of k (0 .. 4) FURROWS from a PLACE: the course of just so many FURROWS". */
    private static void worstOf0To4Furrows() {
        AlwaysThere x = Checks.read(EIGHT + "s2;", 9);
        int[] up = {1, 12, 123, 1234, 12345};
        int[] down = {8, 87, 876, 8765, 87654};
        for (int k = 0; k <= 4; k++) {
            worst(x, 0, k, k + 1, up[k]);
            worst(x, 7, k, k + 1, down[k]);
        }
        for (int k : new int[] {-1, 5, LEAST, MOST}) {
            worst(x, 0, k, Checks.BAD, Checks.BAD);
        }
        worst(new AlwaysThere(), 3, 0, 1, 4);
    }

    private static void worstOfNoPlaceOrWhat() {
        AlwaysThere x = Checks.read("n3;f0 2 1;", 2);
        worst(x, 2, 1, 2, 31);
        for (int none : new int[] {-1, 3, 8, LEAST, MOST}) {
            worst(x, none, 0, Checks.BAD, Checks.BAD);
            worst(x, none, 1, Checks.BAD, Checks.BAD);
        }
        for (int what : new int[] {-1, 2, LEAST, MOST}) {
            Checks.due("worst(0, 1, " + what + ")", x.worst(0, 1, what), Checks.BAD);
            Checks.due("worst(1, 1, " + what + ") where none is", x.worst(1, 1, what), Checks.BAD);
        }
    }

    /** "NONE: there is no such course". */
    private static void worstWhereThereIsNoSuchCourse() {
        AlwaysThere x = Checks.read("n3;f0 1 9;v0 2;v1 2;", 4);
        worst(x, 2, 0, 1, 3);
        for (int k = 1; k <= 4; k++) {
            worst(x, 2, k, Checks.NONE, Checks.NONE);
        }
        worst(x, 1, 4, 2, 21212);
    }

    /** "that needs most: how many; the course (figures: PLACES and 1, the first one the highest), the least number". */
    private static void worstIsTheLeastOfThoseThatNeedMost() {
        AlwaysThere alike = Checks.read("f0 3 1;f0 1 1;f0 2 1;s2;", 4);
        worst(alike, 0, 1, 2, 12);
        worst(alike, 1, 2, 3, 213);
        worst(alike, 3, 2, 3, 412);
        AlwaysThere later = Checks.read("f0 1 9;f0 2 9;f0 3 1;f3 2 1;s3;", 5);
        worst(later, 0, 1, 2, 12);
        AlwaysThere detour = Checks.read("f0 1 9;f0 2 1;f2 1 1;s4;", 4);
        Checks.due("way(0, 1)", detour.way(0, 1), 8);
        worst(detour, 0, 1, 2, 13);
        AlwaysThere easy = Checks.read("f0 1 9;f0 2 1;s1;", 3);
        worst(easy, 0, 1, 1, 12);
        worst(easy, 0, 4, 1, 12121);
        worst(easy, 2, 2, 1, 312);
    }

    /** "(as if told, nobody WAITS)": TIRED counts, WAITS don't, nor does THE COURSE. */
    private static void worstAsIfToldNobodyWaits() {
        AlwaysThere fresh = Checks.read("n3;f0 1 1;f1 2 1;s2;c0 1 2;", 5);
        worst(fresh, 0, 2, 3, 123);
        fresh.waits(0, 20);
        fresh.waits(1, 20);
        fresh.waits(2, 20);
        Checks.due("needed(-1)", fresh.needed(-1), 1);
        worst(fresh, 0, 2, 3, 123);
        AlwaysThere tired = Checks.read("n3;f0 1 1;f1 2 1;s2;t1;", 5);
        worst(tired, 0, 2, 2, 121);
    }

    private static long aRace(AlwaysThere x) {
        Checks.tell(x, "f0 1 1;f1 2 3;v0 2;h1;h2;s2;r4;c0 1 2 1;");
        long items = x.furrows();
        x.waits(0, 2);
        x.sits(0, 0, 0, 9);
        x.saw(1, 2);
        x.keep(1);
        x.needed(-1);
        return items;
    }

    /** "(Nothing is changed ...)". */
    private static void nothingIsChanged() {
        Twins.unchanged("one()", NeededBoundsTest::aRace, x -> x.one(), 0);
        Twins.unchanged("needed(-1)", NeededBoundsTest::aRace, x -> x.needed(-1), 2);
        Twins.unchanged("needed(3)", NeededBoundsTest::aRace, x -> x.needed(3), 0);
        Twins.unchanged("needed(4)", NeededBoundsTest::aRace, x -> x.needed(4), Checks.BAD);
        Twins.unchanged("worst(2, 4, 0)", NeededBoundsTest::aRace, x -> x.worst(2, 4, 0), 3);
        Twins.unchanged("worst(2, 4, 1)", NeededBoundsTest::aRace, x -> x.worst(2, 4, 1), 32121);
        Twins.unchanged("worst(3, 1, 0)", NeededBoundsTest::aRace, x -> x.worst(3, 1, 0), Checks.NONE);
        Twins.unchanged("worst(4, 1, 0)", NeededBoundsTest::aRace, x -> x.worst(4, 1, 0), Checks.BAD);
        Twins.unchanged("fits()", NeededBoundsTest::aRace, x -> x.fits() > 0 ? 1 : 0, 1);
        Twins.unchanged("sure(1)", NeededBoundsTest::aRace, x -> x.sure(1), 1);
        Twins.unchanged("ask(3)", NeededBoundsTest::aRace, x -> x.ask(3), 1);
        Twins.unchanged("bet(5, 1)", NeededBoundsTest::aRace, x -> x.bet(5, 1), 8);
        Twins.unchanged("race(0)", NeededBoundsTest::aRace, x -> x.race(0), 1);
        Twins.unchanged("race(2)", NeededBoundsTest::aRace, x -> x.race(2), 0);
        Twins.unchanged("trace()", NeededBoundsTest::aRace, x -> x.trace(), 0);
    }
}
