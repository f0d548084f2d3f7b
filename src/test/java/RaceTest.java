/** Promises 9 to 14: point, sits, waits, undo, sat, race. */
public final class RaceTest {
    public static void main(String[] args) {
        points();
        sitting();
        sittingInTime();
        sittingIsRefused();
        meetingAndSeeing();
        waiting();
        undoing();
        undoneAreTwelve();
        undoneByTurns();
        undoLeavesTheRest();
        races();
        Checks.end();
    }

    private static void points() {
        AlwaysThere x = Checks.read("n3;f0 1 4;f1 2 9;t3;c0 1 2 1;", 5);
        int[] comes = {0, 4, 16, 31};
        int[] places = {0, 1, 2, 1};
        for (int i = 0; i < 4; i++) {
            Checks.due("point(" + i + ", 0)", x.point(i, 0), places[i]);
            Checks.due("point(" + i + ", 1)", x.point(i, 1), comes[i]);
            Checks.due("point(" + i + ", 2)", x.point(i, 2), 0);
            Checks.due("point(" + i + ", 3)", x.point(i, 3), 0);
            Checks.due("point(" + i + ", 4)", x.point(i, 4), 0);
            Checks.due("point(" + i + ", 5)", x.point(i, 5), Checks.NONE);
        }
        Checks.due("point(4, 0)", x.point(4, 0), Checks.BAD);
        Checks.due("point(-1, 0)", x.point(-1, 0), Checks.BAD);
        Checks.due("point(0, 6)", x.point(0, 6), Checks.BAD);
        Checks.due("point(0, -1)", x.point(0, -1), Checks.BAD);
        AlwaysThere longest = Checks.read("f0 1 9;t3;c0 1 0 1 0 1 0 1;", 3);
        for (int i = 0; i < 8; i++) {
            longest.waits(i, 20);
        }
        Checks.due("the latest there can be", longest.point(7, 1), 266);
    }

    private static void sitting() {
        AlwaysThere x = Checks.read("n2;h1;h2;", 3);
        Checks.due("sits(1, 0, 0, 999)", x.sits(1, 0, 0, 999), 1);
        Checks.due("sits(0, 1, 999, 999)", x.sits(0, 1, 999, 999), 2);
        int[][] due = {{1, 0, 0, 999}, {0, 1, 999, 999}};
        for (int i = 0; i < 2; i++) {
            for (int what = 0; what < 4; what++) {
                Checks.due("sat(" + i + ", " + what + ")", x.sat(i, what), due[i][what]);
            }
        }
        Checks.due("sat(2, 0)", x.sat(2, 0), Checks.BAD);
        Checks.due("sat(-1, 0)", x.sat(-1, 0), Checks.BAD);
        Checks.due("sat(0, 4)", x.sat(0, 4), Checks.BAD);
        Checks.due("sat(0, -1)", x.sat(0, -1), Checks.BAD);
    }

    private static void sittingInTime() {
        AlwaysThere x = Checks.read("n4;f0 1 2;f1 2 1;h0;h0;s5;", 6);
        Checks.due("the first", x.sits(0, 1, 100, 200), 1);
        Checks.due("a minute together elsewhere", x.sits(0, 0, 200, 300), Checks.STATE);
        Checks.due("a minute together elsewhere", x.sits(0, 0, 0, 100), Checks.STATE);
        Checks.due("within it elsewhere", x.sits(0, 0, 150, 150), Checks.STATE);
        Checks.due("around it elsewhere", x.sits(0, 0, 0, 999), Checks.STATE);
        Checks.due("too soon behind it", x.sits(0, 0, 209, 300), Checks.STATE);
        Checks.due("too late ahead of it", x.sits(0, 0, 5, 91), Checks.STATE);
        Checks.due("where he can't go", x.sits(0, 3, 999, 999), Checks.STATE);
        Checks.due("just in time ahead of it", x.sits(0, 0, 5, 90), 2);
        Checks.due("just in time behind it", x.sits(0, 0, 210, 300), 3);
        Checks.due("over both ends at its own place", x.sits(0, 1, 101, 199), 4);
        Checks.due("too far from another one", x.sits(0, 1, 100, 201), Checks.STATE);
        Checks.due("another hedgehog anywhere", x.sits(1, 3, 100, 200), 5);
        Checks.due("from where he can't go", x.sits(1, 2, 900, 999), Checks.STATE);
        Checks.due("way over two furrows", x.sits(0, 2, 314, 320), Checks.STATE);
        Checks.due("way over two furrows", x.sits(0, 2, 315, 320), 6);
    }

    private static void sittingIsRefused() {
        AlwaysThere x = Checks.read("n2;h0;", 2);
        int[][] bad = {{1, 0, 0, 0}, {-1, 0, 0, 0}, {0, 2, 0, 0}, {0, -1, 0, 0}, {0, 0, -1, 0}, {0, 0, 1, 0},
            {0, 0, 0, 1000}, {0, 0, 1000, 1000}, {0, 0, Integer.MIN_VALUE, Integer.MAX_VALUE}};
        for (int[] a : bad) {
            Checks.due("sits of what is not as told", x.sits(a[0], a[1], a[2], a[3]), Checks.BAD);
        }
        for (int i = 1; i <= 12; i++) {
            Checks.due("sits(0, 0, i, i)", x.sits(0, 0, i, i), i);
        }
        Checks.due("a thirteenth", x.sits(0, 0, 0, 0), Checks.FULL);
        Checks.due("a thirteenth that can't be", x.sits(0, 1, 5, 5), Checks.STATE);
        Checks.due("a thirteenth of nobody", x.sits(1, 0, 0, 0), Checks.BAD);
        Checks.due("count(3)", x.count(3), 12);
        Checks.due("race(4)", x.race(4), 12);
    }

    private static void meetingAndSeeing() {
        AlwaysThere x = Checks.read("n4;f0 1 5;f1 2 5;v1 2;h0;h0;h0;c0 1 2;", 8);
        x.sits(0, 1, 5, 5);
        x.sits(1, 2, 0, 5);
        x.sits(2, 3, 0, 999);
        Checks.due("point(1, 3)", x.point(1, 3), 1);
        Checks.due("point(1, 4)", x.point(1, 4), 3);
        Checks.due("point(2, 3)", x.point(2, 3), 0);
        Checks.due("point(2, 4)", x.point(2, 4), 0);
        Checks.due("EMPTY", x.race(0), 0);
        Checks.due("DOUBLE", x.race(1), 1);
        Checks.due("VAIN", x.race(2), 6);
        x.sits(1, 2, 2, 10);
        x.sits(2, 3, 0, 0);
        Checks.due("point(2, 3)", x.point(2, 3), 2);
        Checks.due("VAIN", x.race(2), 4);
        AlwaysThere one = Checks.read("h0;h0;c0;", 3);
        one.sits(0, 0, 0, 0);
        one.sits(0, 0, 0, 9);
        Checks.due("one who sits twice is no double", one.race(1), Checks.NONE);
        one.sits(1, 0, 1, 9);
        Checks.due("one who comes too late", one.race(1), Checks.NONE);
        Checks.due("VAIN", one.race(2), 2);
        one.sits(1, 0, 0, 0);
        Checks.due("two at the place itself", one.race(1), 0);
        Checks.due("EMPTY", one.race(0), Checks.NONE);
    }

    private static void waiting() {
        AlwaysThere x = Checks.read("f0 1 5;t1;c0 1 0;", 3);
        Checks.due("waits(0, 20)", x.waits(0, 20), 31);
        Checks.due("waits(2, 7)", x.waits(2, 7), 31);
        Checks.due("waits(1, 3)", x.waits(1, 3), 34);
        Checks.due("waits(0, 1)", x.waits(0, 1), 15);
        Checks.due("waits(0, 0)", x.waits(0, 0), 14);
        Checks.due("waits(0, 1)", x.waits(0, 1), 15);
        Checks.due("point(1, 1)", x.point(1, 1), 6);
        Checks.due("point(0, 1)", x.point(0, 1), 0);
        Checks.due("point(2, 2)", x.point(2, 2), 7);
        Checks.due("waits(0, 21)", x.waits(0, 21), Checks.BAD);
        Checks.due("waits(0, -1)", x.waits(0, -1), Checks.BAD);
        Checks.due("waits(3, 0)", x.waits(3, 0), Checks.BAD);
        Checks.due("waits(-1, 0)", x.waits(-1, 0), Checks.BAD);
        Checks.due("race(3)", x.race(3), 15);
        Checks.due("race(4)", x.race(4), 6);
        Checks.due("waits without a course", new AlwaysThere().waits(0, 0), Checks.BAD);
    }

    private static void undoing() {
        AlwaysThere x = Checks.read("f0 1 5;h0;c0 1;", 3);
        x.sits(0, 0, 0, 0);
        x.waits(0, 4);
        x.waits(0, 4);
        x.waits(0, 9);
        x.sits(0, 0, 1, 1);
        x.sits(0, 9, 1, 1);
        Checks.due("undo() of a sits", x.undo(), 4);
        Checks.due("count(3)", x.count(3), 1);
        Checks.due("undo() of a wait", x.undo(), 3);
        Checks.due("race(3)", x.race(3), 9);
        Checks.due("undo() of one that changed nothing", x.undo(), 2);
        Checks.due("race(3)", x.race(3), 9);
        Checks.due("undo()", x.undo(), 1);
        Checks.due("race(3)", x.race(3), 5);
        Checks.due("count(3)", x.count(3), 1);
        Checks.due("undo()", x.undo(), 0);
        Checks.due("count(3)", x.count(3), 0);
        Checks.due("undo() of nothing", x.undo(), Checks.STATE);
        Checks.due("sits again", x.sits(0, 1, 0, 0), 1);
        Checks.due("race(4)", x.race(4), 1);
    }

    private static void undoneAreTwelve() {
        AlwaysThere x = Checks.read("f0 1 5;h0;c0 1;", 3);
        x.sits(0, 0, 0, 0);
        for (int n = 1; n <= 14; n++) {
            x.waits(0, n);
            Checks.due("race(4)", x.race(4), Math.min(12, n + 1));
        }
        for (int left = 11; left >= 0; left--) {
            Checks.due("undo()", x.undo(), left);
            Checks.due("point(0, 2)", x.point(0, 2), left + 2);
        }
        Checks.due("undo()", x.undo(), Checks.STATE);
        Checks.due("count(3)", x.count(3), 1);
        Checks.due("point(0, 2)", x.point(0, 2), 2);
    }

    private static void undoneByTurns() {
        AlwaysThere x = Checks.read("f0 1 5;h0;c0 1;", 3);
        for (int turn = 1; turn <= 8; turn++) {
            x.sits(0, 0, turn, turn);
            x.waits(turn % 2, turn);
        }
        for (int turn = 8; turn >= 3; turn--) {
            Checks.due("undo() of a wait", x.undo(), 2 * turn - 5);
            Checks.due("what he waited ahead", x.point(turn % 2, 2), turn - 2);
            Checks.due("count(3)", x.count(3), turn);
            Checks.due("undo() of a sits", x.undo(), 2 * turn - 6);
            Checks.due("count(3)", x.count(3), turn - 1);
        }
        Checks.due("undo()", x.undo(), Checks.STATE);
        Checks.due("sat(1, 2)", x.sat(1, 2), 2);
    }

    private static void undoLeavesTheRest() {
        AlwaysThere x = Checks.read("f0 1 5;h1;c0 1;", 3);
        x.waits(0, 3);
        x.saw(0, 1);
        x.rate(0, 0);
        x.keep(1);
        Checks.due("undo()", x.undo(), 0);
        Checks.due("point(0, 5)", x.point(0, 5), 1);
        Checks.due("trace()", x.trace(), 1);
        Checks.due("back(1)", x.back(1), 0);
        Checks.due("race(3)", x.race(3), 8);
    }

    private static void races() {
        AlwaysThere none = Checks.read("h0;h0;", 2);
        none.sits(1, 0, 0, 0);
        Checks.due("EMPTY without a course", none.race(0), Checks.NONE);
        Checks.due("DOUBLE without a course", none.race(1), Checks.NONE);
        Checks.due("VAIN without a course", none.race(2), 2);
        Checks.due("race(3) without a course", none.race(3), Checks.NONE);
        Checks.due("race(4)", none.race(4), 1);
        Checks.due("race(5)", none.race(5), Checks.BAD);
        Checks.due("race(-1)", none.race(-1), Checks.BAD);
        AlwaysThere single = Checks.read("c2;", 1);
        Checks.due("race(3) of one point", single.race(3), 0);
        Checks.due("EMPTY of one point", single.race(0), 0);
    }
}
