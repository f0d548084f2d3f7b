/** Promises 15 to 17: one, needed, worst. */
public final class NeededTest {
    public static void main(String[] args) {
        noCourse();
        oneAlone();
        theFewest();
        theFirstOfAllWays();
        theWorst();
        theWorstIsRefused();
        Checks.end();
    }

    private static void noCourse() {
        AlwaysThere x = new AlwaysThere();
        Checks.due("one()", x.one(), 1);
        Checks.due("needed(-1)", x.needed(-1), 0);
        Checks.due("needed(0)", x.needed(0), Checks.BAD);
        Checks.due("needed(-2)", x.needed(-2), Checks.BAD);
        AlwaysThere single = Checks.read("c3;", 1);
        Checks.due("one()", single.one(), 1);
        Checks.due("needed(-1)", single.needed(-1), 1);
        Checks.due("needed(0)", single.needed(0), 0);
        Checks.due("needed(1)", single.needed(1), Checks.BAD);
    }

    private static void oneAlone() {
        AlwaysThere x = Checks.read("f0 1 5;s2;c0 1 0;", 3);
        Checks.due("one()", x.one(), 0);
        x.waits(0, 5);
        Checks.due("one() when he waits once", x.one(), 0);
        x.waits(1, 4);
        Checks.due("one() when he waits a minute less", x.one(), 0);
        x.waits(1, 5);
        Checks.due("one() when he waits twice", x.one(), 1);
        Checks.due("needed(-1)", x.needed(-1), 1);
        AlwaysThere roundabout = Checks.read("f0 1 9;f1 2 1;f2 0 1;s4;c0 1;", 5);
        Checks.due("one() by a shorter way", roundabout.one(), 1);
        Checks.due("needed(1) asked first", Checks.read("f0 1 5;c0 1;", 2).needed(1), 1);
    }

    private static void who(AlwaysThere x, int... due) {
        for (int i = 0; i < due.length; i++) {
            Checks.due("needed(" + i + ")", x.needed(i), due[i]);
        }
        Checks.due("needed(" + due.length + ")", x.needed(due.length), Checks.BAD);
    }

    private static void theFewest() {
        AlwaysThere x = Checks.read("f0 1 5;c0 1 0 1 0;", 2);
        Checks.due("needed(-1)", x.needed(-1), 2);
        who(x, 0, 1, 0, 1, 0);
        x.sits(0, 0, 0, 0);
        Checks.due("needed(-1), whoever sits", x.needed(-1), 2);
        AlwaysThere row = Checks.read("n5;f0 1 1;f1 2 1;f2 3 1;f3 4 1;s9;c0 1 2 3 4;", 7);
        Checks.due("needed(-1)", row.needed(-1), 5);
        who(row, 0, 1, 2, 3, 4);
        row.waits(0, 20);
        Checks.due("needed(-1)", row.needed(-1), 4);
        who(row, 0, 0, 1, 2, 3);
    }

    /** Who takes the lesser number wherever he can would need a fourth one here. */
    private static void theFirstOfAllWays() {
        AlwaysThere x = Checks.read("n5;f0 1 2;f1 2 1;f2 3 1;f3 4 1;s3;c2 1 2 3 2 3 4;", 7);
        Checks.due("needed(-1)", x.needed(-1), 3);
        who(x, 0, 1, 0, 2, 1, 0, 2);
        AlwaysThere round = Checks.read("n3;f0 1 2;f1 2 3;s3;c0 1 2 1 2 1 0;", 5);
        Checks.due("needed(-1)", round.needed(-1), 3);
        who(round, 0, 1, 2, 0, 1, 2, 0);
    }

    private static void worst(AlwaysThere x, int place, int k, int many, int course) {
        Checks.due("worst(" + place + ", " + k + ", 0)", x.worst(place, k, 0), many);
        Checks.due("worst(" + place + ", " + k + ", 1)", x.worst(place, k, 1), course);
    }

    private static void theWorst() {
        AlwaysThere x = Checks.read("n8;f7 6 1;f6 5 1;f5 4 1;f4 3 1;f3 2 1;f2 1 1;f1 0 1;", 8);
        worst(x, 0, 0, 1, 1);
        worst(x, 7, 0, 1, 8);
        worst(x, 0, 1, 2, 12);
        worst(x, 0, 2, 3, 123);
        worst(x, 7, 4, 5, 87654);
        worst(x, 1, 4, 5, 23456);
        AlwaysThere tired = Checks.read("f0 1 1;t3;s2;c0 1;", 4);
        worst(tired, 0, 1, 2, 12);
        worst(tired, 0, 4, 2, 12121);
        tired.waits(0, 20);
        Checks.due("one()", tired.one(), 1);
        worst(tired, 0, 1, 2, 12);
        AlwaysThere alone = Checks.read("n3;f0 1 2;", 2);
        worst(alone, 2, 0, 1, 3);
        worst(alone, 2, 1, Checks.NONE, Checks.NONE);
        worst(alone, 2, 4, Checks.NONE, Checks.NONE);
    }

    private static void theWorstIsRefused() {
        AlwaysThere x = Checks.read("n3;f0 1 2;", 2);
        Checks.due("worst(3, 0, 0)", x.worst(3, 0, 0), Checks.BAD);
        Checks.due("worst(-1, 0, 0)", x.worst(-1, 0, 0), Checks.BAD);
        Checks.due("worst(0, 5, 0)", x.worst(0, 5, 0), Checks.BAD);
        Checks.due("worst(0, -1, 0)", x.worst(0, -1, 0), Checks.BAD);
        Checks.due("worst(0, 0, 2)", x.worst(0, 0, 2), Checks.BAD);
        Checks.due("worst(0, 0, -1)", x.worst(0, 0, -1), Checks.BAD);
        Checks.due("worst(2, 1, 2)", x.worst(2, 1, 2), Checks.BAD);
    }
}
