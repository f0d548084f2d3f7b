import java.util.LinkedHashMap;
import java.util.Map;

/** "Refused, and nothing changes, the first of these: BAD ..., STATE ..., FULL." */
public final class RefusedTest {
    private static final int LEAST = Integer.MIN_VALUE, MOST = Integer.MAX_VALUE;
    private static final int BAD = Checks.BAD, STATE = Checks.STATE, FULL = Checks.FULL, NO = Checks.NO;

    public static void main(String[] args) {
        badInAnyState();
        badOfLeastAndMost();
        stateOfANewObject();
        fullOfAFullOne();
        badAheadOfState();
        badAheadOfFull();
        stateAheadOfFull();
        refusedAgainAndAgain();
        Checks.end();
    }

    private static long aNewObject(AlwaysThere x) {
        return 0;
    }

    private static long aRace(AlwaysThere x) {
        Checks.tell(x, "n3;f0 1 5;f1 2 1;v0 2;h3;h5;s2;t1;r4;c0 1 2 1;");
        long items = x.furrows();
        x.sits(0, 0, 0, 7);
        x.saw(1, 2);
        x.keep(0);
        x.waits(0, 3);
        x.sits(1, 1, 5, 9);
        x.keep(1);
        x.waits(1, 1);
        x.rate(4, 1);
        Checks.tell(x, "n2;h7;");
        return items;
    }

    /** Everything there can be: letters, HEDGEHOGS, POINTS, SITS, UNDONE, SEEN, IMAGES. */
    private static long aFullOne(AlwaysThere x) {
        Checks.tell(x, "f0 1 1;h1;h2;h3;h4;h5;c0 1 0 1 0 1 0 1;");
        long items = x.furrows();
        for (int i = 0; i < 12; i++) {
            x.sits(i % 5, 0, i, i + 1);
        }
        for (int i = 0; i < 8; i++) {
            x.saw(i, 15 - i);
        }
        x.keep(0);
        x.waits(0, 20);
        x.keep(1);
        Checks.tell(x, "h15;" + " ".repeat(196));
        return items;
    }

    private static Map<String, Twins.Call> badCalls() {
        Map<String, Twins.Call> calls = new LinkedHashMap<>();
        calls.put("type(-1)", x -> x.type(-1));
        calls.put("type(256)", x -> x.type(256));
        calls.put("furrow(-1, 0)", x -> x.furrow(-1, 0));
        calls.put("furrow(0, 8)", x -> x.furrow(0, 8));
        calls.put("way(8, 0)", x -> x.way(8, 0));
        calls.put("way(0, -1)", x -> x.way(0, -1));
        calls.put("sights(8)", x -> x.sights(8));
        calls.put("hedgehog(5)", x -> x.hedgehog(5));
        calls.put("point(8, 0)", x -> x.point(8, 0));
        calls.put("point(0, 6)", x -> x.point(0, 6));
        calls.put("sits(5, 0, 0, 0)", x -> x.sits(5, 0, 0, 0));
        calls.put("sits(0, 8, 0, 0)", x -> x.sits(0, 8, 0, 0));
        calls.put("sits(0, 0, -1, 0)", x -> x.sits(0, 0, -1, 0));
        calls.put("sits(0, 0, 1, 0)", x -> x.sits(0, 0, 1, 0));
        calls.put("sits(0, 0, 0, 1000)", x -> x.sits(0, 0, 0, 1000));
        calls.put("waits(8, 0)", x -> x.waits(8, 0));
        calls.put("waits(0, 21)", x -> x.waits(0, 21));
        calls.put("waits(0, -1)", x -> x.waits(0, -1));
        calls.put("sat(12, 0)", x -> x.sat(12, 0));
        calls.put("sat(0, 4)", x -> x.sat(0, 4));
        calls.put("race(5)", x -> x.race(5));
        calls.put("needed(8)", x -> x.needed(8));
        calls.put("needed(-2)", x -> x.needed(-2));
        calls.put("worst(8, 0, 0)", x -> x.worst(8, 0, 0));
        calls.put("worst(0, 5, 0)", x -> x.worst(0, 5, 0));
        calls.put("worst(0, 0, 2)", x -> x.worst(0, 0, 2));
        calls.put("saw(8, 0)", x -> x.saw(8, 0));
        calls.put("saw(0, 16)", x -> x.saw(0, 16));
        calls.put("saw(0, -1)", x -> x.saw(0, -1));
        calls.put("sure(8)", x -> x.sure(8));
        calls.put("ask(32)", x -> x.ask(32));
        calls.put("ask(-1)", x -> x.ask(-1));
        calls.put("bet(11, 0)", x -> x.bet(11, 0));
        calls.put("bet(-1, 1)", x -> x.bet(-1, 1));
        calls.put("bet(0, 2)", x -> x.bet(0, 2));
        calls.put("keep(2)", x -> x.keep(2));
        calls.put("keep(-1)", x -> x.keep(-1));
        calls.put("back(2)", x -> x.back(2));
        calls.put("back(-1)", x -> x.back(-1));
        calls.put("count(8)", x -> x.count(8));
        return calls;
    }

    /** "BAD (a number is not as told, or there is no such thing)". */
    private static void badInAnyState() {
        badCalls().forEach((name, call) -> {
            Twins.unchanged(name + " on a new object", RefusedTest::aNewObject, call, BAD);
            Twins.unchanged(name + " in a race", RefusedTest::aRace, call, BAD);
            Twins.unchanged(name + " on a full one", RefusedTest::aFullOne, call, BAD);
        });
        Twins.unchanged("rate(6, 0)", RefusedTest::aRace, x -> x.rate(6, 0), NO);
        Twins.unchanged("rate(-1, 0)", RefusedTest::aFullOne, x -> x.rate(-1, 0), NO);
        Twins.unchanged("rate(0, 5)", RefusedTest::aFullOne, x -> x.rate(0, 5), NO);
        Twins.unchanged("rate(0, 0) of nobody", RefusedTest::aNewObject, x -> x.rate(0, 0), NO);
        Twins.unchanged("sits of nobody", RefusedTest::aNewObject, x -> x.sits(0, 0, 0, 0), BAD);
        Twins.unchanged("waits nowhere", RefusedTest::aNewObject, x -> x.waits(0, 0), BAD);
        Twins.unchanged("saw nowhere", RefusedTest::aNewObject, x -> x.saw(0, 0), BAD);
    }

    /** Every number of every call at its least and its most: nothing is thrown, and nothing is as told. */
    private static void badOfLeastAndMost() {
        AlwaysThere x = new AlwaysThere();
        aRace(x);
        for (int n : new int[] {LEAST, LEAST + 1, MOST - 1, MOST}) {
            int[] one = {x.type(n), x.sights(n), x.hedgehog(n), x.race(n), x.needed(n), x.sure(n), x.ask(n), x.keep(n),
                x.back(n), x.count(n)};
            int[] two = {x.furrow(n, 0), x.furrow(0, n), x.way(n, 0), x.way(0, n), x.point(n, 0), x.point(0, n),
                x.waits(n, 0), x.waits(0, n), x.sat(n, 0), x.sat(0, n), x.saw(n, 0), x.saw(0, n)};
            int[] more = {x.sits(n, 0, 0, 0), x.sits(0, n, 0, 0), x.sits(0, 0, n, 0), x.sits(0, 0, 0, n),
                x.sits(n, n, n, n), x.worst(n, 0, 0), x.worst(0, n, 0), x.worst(0, 0, n), x.worst(n, n, n)};
            for (int[] answers : new int[][] {one, two, more}) {
                for (int i = 0; i < answers.length; i++) {
                    Checks.due("the " + i + "-th call with " + n, answers[i], BAD);
                }
            }
            Checks.due("bet(" + n + ", 0)", x.bet(n, 0), BAD);
            Checks.due("bet(0, " + n + ")", x.bet(0, n), BAD);
            Checks.due("rate(" + n + ", 0)", x.rate(n, 0), NO);
            Checks.due("rate(0, " + n + ")", x.rate(0, n), NO);
        }
    }

    /** "STATE (as told)". */
    private static void stateOfANewObject() {
        Twins.unchanged("undo()", RefusedTest::aNewObject, x -> x.undo(), STATE);
        Twins.unchanged("back(0)", RefusedTest::aNewObject, x -> x.back(0), STATE);
        Twins.unchanged("back(1)", RefusedTest::aNewObject, x -> x.back(1), STATE);
        Twins.unchanged("sits too soon", RefusedTest::aRace, x -> x.sits(0, 1, 16, 20), STATE);
        Twins.unchanged("sits at two places at once", RefusedTest::aRace, x -> x.sits(1, 0, 9, 9), STATE);
    }

    /** "FULL". */
    private static void fullOfAFullOne() {
        Twins.unchanged("type(59)", RefusedTest::aFullOne, x -> x.type(59), FULL);
        Twins.unchanged("type(0)", RefusedTest::aFullOne, x -> x.type(0), FULL);
        Twins.unchanged("type(255)", RefusedTest::aFullOne, x -> x.type(255), FULL);
        Twins.unchanged("sits(0, 0, 999, 999)", RefusedTest::aFullOne, x -> x.sits(0, 0, 999, 999), FULL);
        Twins.unchanged("sits(4, 1, 500, 999)", RefusedTest::aFullOne, x -> x.sits(4, 1, 500, 999), FULL);
    }

    private static void badAheadOfState() {
        Twins.unchanged("an image that there is not", RefusedTest::aNewObject, x -> x.back(2), BAD);
        Twins.unchanged("elsewhere, till too late", RefusedTest::aRace, x -> x.sits(0, 1, 7, 1000), BAD);
        Twins.unchanged("elsewhere, from too early", RefusedTest::aRace, x -> x.sits(0, 1, -1, 7), BAD);
        Twins.unchanged("elsewhere, the wrong way round", RefusedTest::aRace, x -> x.sits(0, 1, 7, 6), BAD);
        Twins.unchanged("elsewhere, which is nowhere", RefusedTest::aRace, x -> x.sits(0, 3, 7, 7), BAD);
    }

    private static void badAheadOfFull() {
        Twins.unchanged("no letter", RefusedTest::aFullOne, x -> x.type(256), BAD);
        Twins.unchanged("a thirteenth of nobody", RefusedTest::aFullOne, x -> x.sits(5, 0, 999, 999), BAD);
        Twins.unchanged("a thirteenth nowhere", RefusedTest::aFullOne, x -> x.sits(0, 4, 999, 999), BAD);
        Twins.unchanged("a thirteenth too late", RefusedTest::aFullOne, x -> x.sits(0, 0, 999, 1000), BAD);
        Twins.unchanged("a thirteenth the wrong way round", RefusedTest::aFullOne, x -> x.sits(0, 0, 999, 998), BAD);
    }

    private static void stateAheadOfFull() {
        Twins.unchanged("a thirteenth at two places at once", RefusedTest::aFullOne, x -> x.sits(0, 1, 0, 0), STATE);
        Twins.unchanged("a thirteenth too soon", RefusedTest::aFullOne, x -> x.sits(1, 1, 14, 14), STATE);
        Twins.unchanged("a thirteenth where no way goes", RefusedTest::aFullOne, x -> x.sits(0, 3, 999, 999), STATE);
        Twins.unchanged("a thirteenth just in time", RefusedTest::aFullOne, x -> x.sits(1, 1, 15, 15), FULL);
    }

    private static void refusedAgainAndAgain() {
        Twins.unchanged("many refused calls", RefusedTest::aFullOne, x -> {
            long last = 0;
            for (int times = 0; times < 3; times++) {
                x.type(' ');
                x.sits(0, 0, 999, 999);
                x.sits(0, 1, 0, 0);
                last = x.waits(8, 1);
            }
            return last;
        }, BAD);
    }
}
