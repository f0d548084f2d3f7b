/** Promises 24 to 26 and 28: rate, keep, back, trace. */
public final class KindsTest {
    public static void main(String[] args) {
        rates();
        ratesAreRefused();
        images();
        imagesAreNotTouchedLater();
        imagesAreRefused();
        imagesKeepNothingElse();
        Checks.end();
    }

    private static void rates() {
        AlwaysThere x = Checks.read("f0 1 1;h7;h1;h7;h7;c0 1 0 1 0;", 6);
        x.sits(2, 0, 0, 0);
        x.sits(2, 0, 5, 5);
        x.sits(0, 1, 5, 5);
        int[] due = {3, 5, 1, 10, 3, 8};
        long[] added = {1, 11, 101, 1011, 10101, 100001};
        long trace = 0;
        for (int kind = 0; kind < 6; kind++) {
            Checks.due("rate(" + kind + ", 2)", x.rate(kind, 2), due[kind]);
            trace += added[kind];
            Checks.due("trace()", x.trace(), trace);
        }
        Checks.due("rate(4, 3)", x.rate(4, 3), 4);
        Checks.due("rate(2, 1)", x.rate(2, 1), 1);
        Checks.due("rate(1, 1)", x.rate(1, 1), 1);
        AlwaysThere bare = Checks.read("h0;h0;h0;", 3);
        Checks.due("a rate below 0", bare.rate(2, 0), -2);
        Checks.due("a rate below 0", bare.rate(4, 1), -1);
    }

    private static void ratesAreRefused() {
        AlwaysThere x = Checks.read("h1;", 1);
        Checks.due("rate(6, 0)", x.rate(6, 0), Checks.NO);
        Checks.due("rate(-1, 0)", x.rate(-1, 0), Checks.NO);
        Checks.due("rate(0, 1)", x.rate(0, 1), Checks.NO);
        Checks.due("rate(0, -1)", x.rate(0, -1), Checks.NO);
        Checks.due("trace()", x.trace(), 0);
    }

    private static void images() {
        AlwaysThere x = Checks.read("f0 1 5;h1;h2;c0 1;", 4);
        x.sits(0, 1, 3, 4);
        x.waits(0, 6);
        x.saw(1, 9);
        Checks.due("keep(1)", x.keep(1), 1);
        x.sits(1, 0, 7, 8);
        x.waits(0, 1);
        x.waits(1, 2);
        x.saw(0, 3);
        x.saw(1, 4);
        Checks.due("keep(0)", x.keep(0), 2);
        Checks.due("back(1)", x.back(1), 1);
        Checks.due("count(3)", x.count(3), 1);
        Checks.due("race(3)", x.race(3), 11);
        Checks.due("point(0, 2)", x.point(0, 2), 6);
        Checks.due("point(1, 2)", x.point(1, 2), 0);
        Checks.due("point(0, 5)", x.point(0, 5), Checks.NONE);
        Checks.due("point(1, 5)", x.point(1, 5), 9);
        Checks.due("undo()", x.undo(), Checks.STATE);
        Checks.due("back(0)", x.back(0), 2);
        int[] sat = {1, 0, 7, 8};
        for (int what = 0; what < 4; what++) {
            Checks.due("sat(1, " + what + ")", x.sat(1, what), sat[what]);
        }
        Checks.due("race(3)", x.race(3), 6);
        x.sits(0, 1, 4, 9);
        x.forget();
        Checks.due("back(0): an image can be taken again", x.back(0), 2);
        Checks.due("point(0, 5)", x.point(0, 5), 3);
        x.undo();
        Checks.due("keep(0): a later one counts", x.keep(0), 2);
        x.sits(0, 1, 20, 20);
        Checks.due("keep(0)", x.keep(0), 3);
        Checks.due("back(1)", x.back(1), 1);
        Checks.due("back(0)", x.back(0), 3);
    }

    private static void imagesAreNotTouchedLater() {
        AlwaysThere x = Checks.read("f0 1 5;h1;h2;c0 1;", 4);
        x.sits(0, 1, 3, 4);
        x.keep(0);
        x.undo();
        x.sits(1, 0, 7, 8);
        Checks.due("back(0)", x.back(0), 1);
        int[] sat = {0, 1, 3, 4};
        for (int what = 0; what < 4; what++) {
            Checks.due("sat(0, " + what + ")", x.sat(0, what), sat[what]);
        }
        x.waits(0, 5);
        x.saw(0, 5);
        x.back(0);
        Checks.due("point(0, 2)", x.point(0, 2), 0);
        Checks.due("point(0, 5)", x.point(0, 5), Checks.NONE);
    }

    private static void imagesAreRefused() {
        AlwaysThere x = Checks.read("f0 1 5;h1;c0 1;", 3);
        x.sits(0, 0, 0, 0);
        Checks.due("keep(2)", x.keep(2), Checks.BAD);
        Checks.due("keep(-1)", x.keep(-1), Checks.BAD);
        Checks.due("back(2)", x.back(2), Checks.BAD);
        Checks.due("back(-1)", x.back(-1), Checks.BAD);
        Checks.due("back(0)", x.back(0), Checks.STATE);
        Checks.due("race(4): a refused one changes nothing", x.race(4), 1);
        Checks.due("keep(0)", x.keep(0), 1);
        Checks.due("race(4): nor does keep()", x.race(4), 1);
        Checks.due("back(1)", x.back(1), Checks.STATE);
    }

    private static void imagesKeepNothingElse() {
        AlwaysThere x = Checks.read("h1;", 1);
        x.keep(0);
        x.rate(5, 0);
        Checks.tell(x, "h1");
        Checks.due("back(0)", x.back(0), 0);
        Checks.due("trace()", x.trace(), 100001);
        Checks.due("count(4)", x.count(4), 2);
    }
}
