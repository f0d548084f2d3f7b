/** Each sentence about SITS, WAITS, MEETS, SEES and UNDONE that names a bound (promises 10 to 14). */
public final class RaceBoundsTest {
    private static final int LEAST = Integer.MIN_VALUE, MOST = Integer.MAX_VALUE;
    /** Slow 2: the way between 0 and 1 is 10 minutes, to 2 it is 12; nobody comes to 3. */
    private static final String ROW = "f0 1 5;f1 2 1;h1;h2;s2;c0 1 2;";

    public static void main(String[] args) {
        minutesAre0To999();
        sitsOfNobodyOrNowhere();
        sitsAre12AtMost();
        timeBetweenIsTheWayAtLeast();
        leastTimeBetween();
        togetherOnlyAtOnePlace();
        neverWhereThereIsNoWay();
        eachOfHisSitsIsAsked();
        onlyHisSitsAreAsked();
        undoneSitsAreNotAsked();
        hareIsNotAsked();
        meetsFromTheFirstToTheLastMinute();
        meetsWhenHeComesNotWhileHeWaits();
        seesAtThePlaceAndInSight();
        emptyIsTheFirst();
        doubleIsTheFirstOfTwoOrMore();
        vainMeetNobody();
        raceWithoutACourse();
        raceOfNoSuchWhat();
        waitsAre0To20();
        waitsAtTheLastPoint();
        undoOfNone();
        undoIsOfTheLatest();
        undoneAre12();
        undoneAfterSomeAreLost();
        refusedIsNotUndone();
        otherCallsAreNotUndone();
        satOfNoSits();
        Checks.end();
    }

    private static AlwaysThere row() {
        return Checks.read(ROW, 6);
    }

    /** "from a minute to another one (0 .. 999, no less)". */
    private static void minutesAre0To999() {
        int[][] good = {{0, 0}, {0, 1}, {0, 999}, {998, 999}, {999, 999}, {500, 500}};
        for (int[] m : good) {
            AlwaysThere x = row();
            Checks.due("sits from " + m[0] + " to " + m[1], x.sits(0, 0, m[0], m[1]), 1);
            Checks.due("sat(0, 2)", x.sat(0, 2), m[0]);
            Checks.due("sat(0, 3)", x.sat(0, 3), m[1]);
        }
        int[][] bad = {{-1, -1}, {-1, 0}, {-1, 999}, {0, -1}, {1, 0}, {999, 998}, {999, 1000}, {1000, 1000},
            {1000, 999}, {0, 1000}, {LEAST, 0}, {0, MOST}, {LEAST, MOST}, {MOST, LEAST}, {MOST, MOST}, {LEAST, LEAST}};
        for (int[] m : bad) {
            Twins.unchanged("sits from " + m[0] + " to " + m[1], RaceBoundsTest::aRace, x -> x.sits(0, 0, m[0], m[1]),
                Checks.BAD);
        }
    }

    private static long aRace(AlwaysThere x) {
        Checks.tell(x, ROW);
        long items = x.furrows();
        x.sits(0, 0, 100, 110);
        x.waits(1, 7);
        x.sits(1, 2, 0, 40);
        x.keep(0);
        x.saw(0, 1);
        return items;
    }

    private static void sitsOfNobodyOrNowhere() {
        AlwaysThere x = row();
        Checks.due("the last hedgehog at the last place", x.sits(1, 3, 0, 0), 1);
        for (int none : new int[] {-1, 2, 5, LEAST, MOST}) {
            Twins.unchanged("sits of hedgehog " + none, RaceBoundsTest::aRace, y -> y.sits(none, 0, 500, 500),
                Checks.BAD);
        }
        for (int none : new int[] {-1, 4, 8, LEAST, MOST}) {
            Twins.unchanged("sits at place " + none, RaceBoundsTest::aRace, y -> y.sits(0, none, 500, 500), Checks.BAD);
        }
        Checks.due("sits of nobody at all", new AlwaysThere().sits(0, 0, 0, 0), Checks.BAD);
    }

    private static long twelve(AlwaysThere x) {
        Checks.tell(x, ROW);
        long items = x.furrows();
        for (int i = 0; i < 12; i++) {
            x.sits(i % 2, i % 2, i, i);
        }
        return items;
    }

    /** "SITS (12 at most)", "FULL". */
    private static void sitsAre12AtMost() {
        AlwaysThere x = row();
        for (int i = 1; i <= 12; i++) {
            Checks.due("sits, the " + i + "-th", x.sits(0, 1, i, i), i);
        }
        Checks.due("a thirteenth", x.sits(0, 1, 13, 13), Checks.FULL);
        Checks.due("a thirteenth of another one", x.sits(1, 0, 13, 13), Checks.FULL);
        Checks.due("the twelfth", x.sat(11, 2), 12);
        Checks.due("undo()", x.undo(), 11);
        Checks.due("room again", x.sits(1, 0, 13, 13), 12);
        Checks.due("full again", x.sits(1, 0, 13, 13), Checks.FULL);
        Twins.unchanged("a thirteenth", RaceBoundsTest::twelve, y -> y.sits(0, 0, 500, 500), Checks.FULL);
        Twins.unchanged("a thirteenth that can't be", RaceBoundsTest::twelve, y -> y.sits(0, 1, 0, 0), Checks.STATE);
        Twins.unchanged("a thirteenth of nobody", RaceBoundsTest::twelve, y -> y.sits(2, 0, 500, 500), Checks.BAD);
    }

    private static void sitsBehind100To200(int place, int from, int to, int due) {
        AlwaysThere x = row();
        x.sits(0, 0, 100, 200);
        Checks.due("at " + place + " from " + from + " to " + to, x.sits(0, place, from, to), due);
        Checks.due("count(3)", x.count(3), due == 2 ? 2 : 1);
        Checks.due("race(4)", x.race(4), due == 2 ? 2 : 1);
    }

    /** "he could not be there from another SITS of his (WAY between both, for the time between them ...)". */
    private static void timeBetweenIsTheWayAtLeast() {
        sitsBehind100To200(1, 209, 300, Checks.STATE);
        sitsBehind100To200(1, 210, 300, 2);
        sitsBehind100To200(1, 211, 300, 2);
        sitsBehind100To200(1, 50, 91, Checks.STATE);
        sitsBehind100To200(1, 50, 90, 2);
        sitsBehind100To200(1, 50, 89, 2);
        sitsBehind100To200(2, 211, 211, Checks.STATE);
        sitsBehind100To200(2, 212, 212, 2);
        sitsBehind100To200(2, 0, 89, Checks.STATE);
        sitsBehind100To200(2, 0, 88, 2);
        Twins.unchanged("too soon", RaceBoundsTest::aRace, x -> x.sits(0, 1, 119, 200), Checks.STATE);
        Twins.unchanged("too late", RaceBoundsTest::aRace, x -> x.sits(0, 1, 0, 91), Checks.STATE);
    }

    /** A WAY of one minute: the very next minute is in time, the same one is not. */
    private static void leastTimeBetween() {
        AlwaysThere x = Checks.read("f0 1 1;h0;s1;", 3);
        Checks.due("sits(0, 0, 5, 5)", x.sits(0, 0, 5, 5), 1);
        Checks.due("in the same minute", x.sits(0, 1, 5, 5), Checks.STATE);
        Checks.due("in the next minute", x.sits(0, 1, 6, 6), 2);
        Checks.due("in the minute ahead", x.sits(0, 1, 4, 4), 3);
        AlwaysThere y = Checks.read("f0 1 1;h0;s2;", 3);
        Checks.due("sits(0, 0, 0, 0)", y.sits(0, 0, 0, 0), 1);
        Checks.due("a minute too soon", y.sits(0, 1, 1, 999), Checks.STATE);
        Checks.due("just in time", y.sits(0, 1, 2, 999), 2);
    }

    /** "two that have a minute together only at one PLACE". */
    private static void togetherOnlyAtOnePlace() {
        int[][] together = {{100, 200}, {100, 100}, {200, 200}, {150, 150}, {0, 100}, {200, 999}, {0, 999}, {99, 201},
            {101, 199}, {0, 150}, {150, 999}};
        for (int[] m : together) {
            sitsBehind100To200(0, m[0], m[1], 2);
            sitsBehind100To200(1, m[0], m[1], Checks.STATE);
            sitsBehind100To200(3, m[0], m[1], Checks.STATE);
        }
        int[][] apart = {{0, 99}, {99, 99}, {201, 201}, {201, 999}};
        for (int[] m : apart) {
            sitsBehind100To200(0, m[0], m[1], 2);
            sitsBehind100To200(1, m[0], m[1], Checks.STATE);
        }
    }

    /** "(none: it can't)". */
    private static void neverWhereThereIsNoWay() {
        AlwaysThere x = row();
        Checks.due("sits(0, 0, 0, 0)", x.sits(0, 0, 0, 0), 1);
        Checks.due("sits(0, 3, 999, 999)", x.sits(0, 3, 999, 999), Checks.STATE);
        Checks.due("sits(1, 3, 999, 999)", x.sits(1, 3, 999, 999), 2);
        Checks.due("sits(1, 0, 0, 0)", x.sits(1, 0, 0, 0), Checks.STATE);
    }

    private static void eachOfHisSitsIsAsked() {
        AlwaysThere x = row();
        x.sits(0, 0, 100, 100);
        x.sits(0, 0, 300, 300);
        x.sits(0, 0, 200, 200);
        Checks.due("near the first one", x.sits(0, 1, 109, 109), Checks.STATE);
        Checks.due("near the second one", x.sits(0, 1, 291, 291), Checks.STATE);
        Checks.due("near the third one", x.sits(0, 1, 209, 210), Checks.STATE);
        Checks.due("around one of them", x.sits(0, 1, 110, 290), Checks.STATE);
        Checks.due("between two of them, as long as can be", x.sits(0, 1, 110, 190), 4);
        Checks.due("between two of them, too long", x.sits(0, 1, 210, 291), Checks.STATE);
        Checks.due("between two of them", x.sits(0, 1, 210, 290), 5);
    }

    private static void onlyHisSitsAreAsked() {
        AlwaysThere x = row();
        x.sits(0, 0, 0, 999);
        Checks.due("another one elsewhere", x.sits(1, 1, 0, 999), 2);
        Checks.due("another one there, too", row().sits(1, 0, 0, 999), 1);
        Checks.due("himself elsewhere", x.sits(0, 1, 0, 0), Checks.STATE);
    }

    private static void undoneSitsAreNotAsked() {
        AlwaysThere x = row();
        x.sits(0, 0, 0, 999);
        Checks.due("elsewhere", x.sits(0, 1, 5, 5), Checks.STATE);
        x.undo();
        Checks.due("elsewhere, when it is undone", x.sits(0, 1, 5, 5), 1);
        x.keep(0);
        x.undo();
        x.back(0);
        Checks.due("what an image brings back is asked", x.sits(0, 0, 5, 5), Checks.STATE);
    }

    /** A SITS is refused by other SITS alone, not by when or where the HARE comes. */
    private static void hareIsNotAsked() {
        AlwaysThere none = Checks.read("h1;", 1);
        Checks.due("without a course", none.sits(0, 3, 7, 8), 1);
        AlwaysThere x = row();
        Checks.due("where the hare never comes", x.sits(0, 3, 0, 999), 1);
    }

    /** "MEETS: HEDGEHOGS (bits) that sit at that PLACE then". */
    private static void meetsFromTheFirstToTheLastMinute() {
        int[][] sits = {{5, 5, 1}, {4, 5, 1}, {5, 6, 1}, {0, 999, 1}, {4, 4, 0}, {6, 6, 0}, {0, 4, 0}, {6, 999, 0}};
        for (int[] s : sits) {
            AlwaysThere x = row();
            x.sits(0, 1, s[0], s[1]);
            Checks.due("point(1, 3) from " + s[0] + " to " + s[1], x.point(1, 3), s[2]);
            Checks.due("point(1, 4) from " + s[0] + " to " + s[1], x.point(1, 4), s[2]);
            Checks.due("point(0, 3): elsewhere", x.point(0, 3), 0);
        }
        AlwaysThere all = Checks.read("h0;h0;h0;h0;h0;c3;", 6);
        for (int h = 4; h >= 0; h--) {
            all.sits(h, 3, 0, h);
        }
        Checks.due("all five", all.point(0, 3), 31);
        Checks.due("all five", all.point(0, 4), 31);
    }

    /** "At a POINT in the minute in which the HARE COMES". */
    private static void meetsWhenHeComesNotWhileHeWaits() {
        AlwaysThere x = row();
        x.sits(0, 1, 6, 999);
        x.waits(1, 20);
        Checks.due("who comes while the hare waits", x.point(1, 3), 0);
        x.waits(0, 1);
        Checks.due("when the hare comes later", x.point(1, 3), 1);
    }

    /** "SEES: those that sit there, or at a PLACE in SIGHT of it". */
    private static void seesAtThePlaceAndInSight() {
        AlwaysThere x = Checks.read("n4;v0 1;v1 2;h0;h0;h0;h0;c0;", 8);
        for (int h = 0; h < 4; h++) {
            x.sits(h, h, 0, 0);
        }
        Checks.due("there and in sight, not in sight of that", x.point(0, 4), 3);
        Checks.due("there", x.point(0, 3), 1);
        AlwaysThere late = Checks.read("v0 1;h0;h0;c1;", 4);
        late.sits(0, 0, 1, 1);
        Checks.due("in sight a minute too late", late.point(0, 4), 0);
        late.sits(1, 0, 0, 0);
        Checks.due("in sight, told from the other end", late.point(0, 4), 2);
        Checks.due("in sight, but not there", late.point(0, 3), 0);
    }

    /** "EMPTY: the first POINT at which none MEETS ...; NONE". */
    private static void emptyIsTheFirst() {
        AlwaysThere x = Checks.read("f0 1 5;h0;h0;c0 1 0;", 4);
        Checks.due("nobody sits", x.race(0), 0);
        x.sits(0, 0, 0, 9);
        Checks.due("the second", x.race(0), 1);
        x.sits(1, 1, 5, 5);
        Checks.due("the third", x.race(0), 2);
        x.sits(0, 0, 10, 10);
        Checks.due("none", x.race(0), Checks.NONE);
        AlwaysThere seen = Checks.read("v0 1;h0;c0;", 3);
        seen.sits(0, 1, 0, 0);
        Checks.due("who is only seen does not meet him", seen.race(0), 0);
    }

    /** "DOUBLE: the first one at which two or more are SEEN; NONE". */
    private static void doubleIsTheFirstOfTwoOrMore() {
        AlwaysThere x = Checks.read("f0 1 5;v1 2;h0;h0;h0;c0 1 0;", 6);
        Checks.due("nobody is seen", x.race(1), Checks.NONE);
        x.sits(1, 0, 0, 0);
        x.sits(2, 0, 0, 10);
        Checks.due("two are seen at the first point", x.race(1), 0);
        x.undo();
        x.undo();
        x.sits(0, 0, 10, 10);
        Checks.due("one is seen", x.race(1), Checks.NONE);
        x.sits(0, 0, 10, 11);
        Checks.due("one is seen, who sits twice", x.race(1), Checks.NONE);
        x.sits(1, 0, 9, 10);
        Checks.due("two are seen", x.race(1), 2);
        x.sits(2, 2, 5, 5);
        Checks.due("one in sight", x.race(1), 2);
        x.undo();
        x.sits(2, 0, 10, 10);
        Checks.due("three are seen", x.race(1), 2);
        AlwaysThere near = Checks.read("f0 1 5;v1 2;v1 3;h0;h0;c0 1;", 6);
        near.sits(0, 2, 5, 5);
        near.sits(1, 3, 5, 5);
        Checks.due("two in sight, none there", near.race(1), 1);
        Checks.due("EMPTY", near.race(0), 0);
    }

    /** "VAIN: HEDGEHOGS (bits) that SIT somewhere but MEET nobody at any POINT". */
    private static void vainMeetNobody() {
        AlwaysThere x = Checks.read("f0 1 5;v1 2;h0;h0;h0;h0;c0 1 0;", 7);
        Checks.due("nobody sits", x.race(2), 0);
        x.sits(0, 0, 1, 9);
        Checks.due("he is too late and too early", x.race(2), 1);
        x.sits(1, 2, 5, 5);
        Checks.due("one is only seen", x.race(2), 3);
        x.sits(0, 0, 10, 10);
        Checks.due("one meets him at the last point", x.race(2), 2);
        x.sits(3, 0, 0, 0);
        Checks.due("one meets him at the first point", x.race(2), 2);
        x.sits(3, 3, 0, 0);
        x.sits(2, 3, 0, 999);
        Checks.due("one sits where he never comes", x.race(2), 6);
        AlwaysThere all = Checks.read("h0;h0;h0;h0;h0;c0;", 6);
        for (int h = 0; h < 5; h++) {
            all.sits(h, 1, 0, 0);
        }
        Checks.due("all five", all.race(2), 31);
    }

    /** "3 when the HARE COMES to the last POINT (NONE: no COURSE)". */
    private static void raceWithoutACourse() {
        AlwaysThere x = Checks.read("h0;h0;", 2);
        int[] due = {Checks.NONE, Checks.NONE, 0, Checks.NONE, 0};
        for (int what = 0; what < due.length; what++) {
            Checks.due("race(" + what + ")", x.race(what), due[what]);
        }
        x.sits(0, 0, 0, 0);
        x.sits(1, 0, 0, 0);
        Checks.due("EMPTY", x.race(0), Checks.NONE);
        Checks.due("DOUBLE", x.race(1), Checks.NONE);
        Checks.due("VAIN: all who sit", x.race(2), 3);
        Checks.due("how many may be undone", x.race(4), 2);
        Checks.due("race(3) of one point", Checks.read("c0;", 1).race(3), 0);
    }

    private static void raceOfNoSuchWhat() {
        for (int what : new int[] {-1, 5, LEAST, MOST}) {
            Checks.due("race(" + what + ")", row().race(what), Checks.BAD);
            Checks.due("race(" + what + ") without a course", new AlwaysThere().race(what), Checks.BAD);
        }
    }

    /** "The HARE WAITS at a POINT n (0 .. 20) minutes: when he COMES to the last one then. BAD." */
    private static void waitsAre0To20() {
        AlwaysThere x = row();
        for (int n = 0; n <= 20; n++) {
            Checks.due("waits(0, " + n + ")", x.waits(0, n), 6 + n);
            Checks.due("point(0, 2)", x.point(0, 2), n);
        }
        Checks.due("told again: the later one counts", x.waits(0, 3), 9);
        for (int n : new int[] {-1, 21, LEAST, MOST}) {
            Twins.unchanged("waits(0, " + n + ")", RaceBoundsTest::aRace, y -> y.waits(0, n), Checks.BAD);
        }
        for (int i : new int[] {-1, 3, 8, LEAST, MOST}) {
            Twins.unchanged("waits(" + i + ", 0)", RaceBoundsTest::aRace, y -> y.waits(i, 0), Checks.BAD);
        }
        Checks.due("waits without a course", new AlwaysThere().waits(0, 0), Checks.BAD);
    }

    private static void waitsAtTheLastPoint() {
        AlwaysThere x = row();
        Checks.due("waits(2, 20)", x.waits(2, 20), 6);
        Checks.due("point(2, 2)", x.point(2, 2), 20);
        Checks.due("waits(1, 20)", x.waits(1, 20), 26);
        Checks.due("point(1, 1)", x.point(1, 1), 5);
        AlwaysThere single = Checks.read("c1;", 1);
        Checks.due("waits(0, 20) of one point", single.waits(0, 20), 0);
        Checks.due("undo()", single.undo(), 0);
        Checks.due("point(0, 2)", single.point(0, 2), 0);
    }

    /** "STATE: none". */
    private static void undoOfNone() {
        Checks.due("undo() of a new object", new AlwaysThere().undo(), Checks.STATE);
        Checks.due("undo() of a new race", row().undo(), Checks.STATE);
        Twins.unchanged("undo() of none", x -> {
            aRace(x);
            return x.back(0);
        }, x -> x.undo(), Checks.STATE);
    }

    /** "UNDONE: the latest of sits(), waits() that was not refused and not undone". */
    private static void undoIsOfTheLatest() {
        Twins.alike("a sits, undone", RaceBoundsTest::aRace, x -> {
            aRace(x);
            x.sits(0, 0, 500, 500);
            return x.undo();
        });
        Twins.alike("a wait, undone", RaceBoundsTest::aRace, x -> {
            aRace(x);
            x.waits(1, 9);
            return x.undo();
        });
        Twins.alike("four, undone one by one", RaceBoundsTest::aRace, x -> {
            aRace(x);
            x.waits(1, 9);
            x.sits(0, 0, 500, 500);
            x.waits(1, 8);
            x.waits(0, 8);
            x.undo();
            x.undo();
            x.undo();
            return x.undo();
        });
        Twins.alike("undone ones are not undone again", RaceBoundsTest::aRace, x -> {
            aRace(x);
            x.undo();
            return x.sits(1, 2, 0, 40);
        });
    }

    /** "(12 are known, older ones are lost)". */
    private static void undoneAre12() {
        AlwaysThere x = row();
        for (int n = 1; n <= 13; n++) {
            x.waits(0, n);
            Checks.due("race(4) behind " + n, x.race(4), Math.min(n, 12));
        }
        for (int left = 11; left >= 0; left--) {
            Checks.due("undo()", x.undo(), left);
            Checks.due("race(4)", x.race(4), left);
            Checks.due("race(3)", x.race(3), 7 + left);
        }
        Checks.due("the thirteenth is lost", x.undo(), Checks.STATE);
        Checks.due("it stays", x.point(0, 2), 1);
        AlwaysThere twelve = row();
        for (int n = 1; n <= 12; n++) {
            twelve.waits(0, n);
        }
        for (int left = 11; left >= 0; left--) {
            Checks.due("undo() of twelve", twelve.undo(), left);
        }
        Checks.due("all twelve are undone", twelve.point(0, 2), 0);
    }

    private static void undoneAfterSomeAreLost() {
        AlwaysThere x = row();
        x.sits(0, 0, 0, 0);
        for (int n = 1; n <= 12; n++) {
            x.waits(0, n);
        }
        Checks.due("undo()", x.undo(), 11);
        Checks.due("one more", x.sits(1, 1, 9, 9), 2);
        Checks.due("race(4)", x.race(4), 12);
        Checks.due("undo() of it", x.undo(), 11);
        Checks.due("count(3)", x.count(3), 1);
        Checks.due("undo() of the wait ahead", x.undo(), 10);
        Checks.due("point(0, 2)", x.point(0, 2), 10);
        AlwaysThere turns = row();
        for (int turn = 0; turn < 7; turn++) {
            turns.sits(0, 0, turn, turn);
            turns.waits(turn % 3, turn + 1);
        }
        Checks.due("fourteen by turns: twelve are known", turns.race(4), 12);
        for (int turn = 6; turn > 0; turn--) {
            Checks.due("undo() of a wait", turns.undo(), 2 * turn - 1);
            Checks.due("what he waited there ahead", turns.point(turn % 3, 2), Math.max(0, turn - 2));
            Checks.due("count(3)", turns.count(3), turn + 1);
            Checks.due("undo() of a sits", turns.undo(), 2 * turn - 2);
            Checks.due("count(3)", turns.count(3), turn);
        }
        Checks.due("the first two are lost", turns.undo(), Checks.STATE);
        Checks.due("the first sits stays", turns.count(3), 1);
        Checks.due("the first wait stays", turns.point(0, 2), 1);
    }

    private static void refusedIsNotUndone() {
        AlwaysThere x = row();
        x.sits(0, 0, 0, 0);
        x.sits(0, 1, 0, 0);
        x.sits(2, 0, 0, 0);
        x.waits(0, 21);
        x.waits(3, 0);
        Checks.due("race(4)", x.race(4), 1);
        Checks.due("undo()", x.undo(), 0);
        Checks.due("count(3)", x.count(3), 0);
        AlwaysThere full = new AlwaysThere();
        twelve(full);
        full.sits(0, 0, 500, 500);
        Checks.due("undo() behind FULL", full.undo(), 11);
        Checks.due("count(3)", full.count(3), 11);
    }

    private static void otherCallsAreNotUndone() {
        AlwaysThere x = row();
        x.waits(0, 9);
        x.saw(0, 3);
        x.forget();
        x.saw(0, 2);
        x.keep(0);
        x.rate(5, 0);
        x.type('h');
        x.clear();
        x.furrows();
        Checks.due("behind furrows()", x.undo(), Checks.STATE);
        AlwaysThere y = row();
        y.waits(0, 9);
        y.saw(0, 2);
        y.keep(0);
        y.rate(5, 0);
        y.type('h');
        Checks.due("race(4)", y.race(4), 1);
        Checks.due("undo()", y.undo(), 0);
        Checks.due("what he waits is undone", y.point(0, 2), 0);
        Checks.due("what was seen is not", y.point(0, 5), 2);
        Checks.due("the text is not", y.count(4), 1);
        Checks.due("the trace is not", y.trace(), 100001);
        Checks.due("the image is not", y.back(0), 0);
        Checks.due("it has what he waited", y.point(0, 2), 9);
    }

    private static void satOfNoSits() {
        AlwaysThere x = row();
        for (int what = 0; what < 4; what++) {
            Checks.due("sat(0, " + what + ") of none", x.sat(0, what), Checks.BAD);
        }
        x.sits(1, 2, 3, 4);
        for (int what = 0; what < 4; what++) {
            Checks.due("sat(0, " + what + ")", x.sat(0, what), what + 1);
            Checks.due("sat(1, " + what + ")", x.sat(1, what), Checks.BAD);
            Checks.due("sat(-1, " + what + ")", x.sat(-1, what), Checks.BAD);
            Checks.due("sat(12, " + what + ")", x.sat(12, what), Checks.BAD);
            Checks.due("sat(least, " + what + ")", x.sat(LEAST, what), Checks.BAD);
            Checks.due("sat(most, " + what + ")", x.sat(MOST, what), Checks.BAD);
        }
        for (int what : new int[] {-1, 4, LEAST, MOST}) {
            Checks.due("sat(0, " + what + ")", x.sat(0, what), Checks.BAD);
        }
        x.undo();
        Checks.due("sat(0, 0) of what is undone", x.sat(0, 0), Checks.BAD);
        AlwaysThere full = new AlwaysThere();
        twelve(full);
        Checks.due("sat(11, 3)", full.sat(11, 3), 11);
        Checks.due("sat(12, 3)", full.sat(12, 3), Checks.BAD);
    }
}
