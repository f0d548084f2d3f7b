/** Each sentence about PLACES, WAYS, POINTS and what is counted that names a bound (promises 5 to 9 and 27). */
public final class LandBoundsTest {
    private static final int LEAST = Integer.MIN_VALUE, MOST = Integer.MAX_VALUE;

    public static void main(String[] args) {
        furrowIs0WhereNoneIs();
        furrowOfNoPlace();
        wayIsNoneWhereItCannotGo();
        wayIsSlowTimesTheShortestRow();
        wayOfNoPlace();
        sightsOfNoPlace();
        hedgehogOfNobody();
        pointOfNoPoint();
        pointOfNoSuchWhat();
        hareIsAtPoint0InMinute0();
        tiredTimesHowManyHeRan();
        countOfNoSuchWhat();
        countsEmptyAndFull();
        Checks.end();
    }

    /** "LENGTH of the FURROW between two PLACES (0: none; one and the same: 0)." */
    private static void furrowIs0WhereNoneIs() {
        AlwaysThere x = Checks.read("n8;f0 7 9;f7 6 1;", 3);
        Checks.due("furrow(0, 7)", x.furrow(0, 7), 9);
        Checks.due("furrow(7, 0)", x.furrow(7, 0), 9);
        Checks.due("furrow(6, 7)", x.furrow(6, 7), 1);
        Checks.due("furrow(0, 6): none, though there is a way", x.furrow(0, 6), 0);
        for (int a = 0; a < 8; a++) {
            Checks.due("furrow of one and the same", x.furrow(a, a), 0);
        }
    }

    /** Of every number of PLACES: the last one, and one beyond it. */
    private static void furrowOfNoPlace() {
        for (int n = 2; n <= 8; n++) {
            AlwaysThere x = Checks.read("n" + n + ";f0 " + (n - 1) + " 5;", 2);
            Checks.due("furrow(0, n - 1)", x.furrow(0, n - 1), 5);
            for (int none : new int[] {-1, n, 8, LEAST, MOST}) {
                Checks.due("furrow(0, " + none + ")", x.furrow(0, none), Checks.BAD);
                Checks.due("furrow(" + none + ", 0)", x.furrow(none, 0), Checks.BAD);
                Checks.due("furrow of one and the same that is not", x.furrow(none, none), Checks.BAD);
            }
        }
    }

    /** "(none: it can't)", "NONE". */
    private static void wayIsNoneWhereItCannotGo() {
        AlwaysThere x = Checks.read("n5;f0 1 1;f3 4 1;v1 2;v1 3;", 5);
        Checks.due("way(0, 1)", x.way(0, 1), 3);
        Checks.due("way(0, 2): a sight is no way", x.way(0, 2), Checks.NONE);
        Checks.due("way(2, 0)", x.way(2, 0), Checks.NONE);
        Checks.due("way(0, 3)", x.way(0, 3), Checks.NONE);
        Checks.due("way(4, 1)", x.way(4, 1), Checks.NONE);
        for (int a = 0; a < 5; a++) {
            Checks.due("way to where he is", x.way(a, a), 0);
        }
    }

    /** "SLOW times the shortest row of FURROWS". */
    private static void wayIsSlowTimesTheShortestRow() {
        AlwaysThere alike = Checks.read("n3;f0 1 1;f1 2 1;f0 2 2;s1;", 5);
        Checks.due("two furrows as long as one", alike.way(0, 2), 2);
        AlwaysThere shorter = Checks.read("n3;f0 1 1;f1 2 1;f0 2 3;s1;", 5);
        Checks.due("two furrows shorter than one", shorter.way(0, 2), 2);
        AlwaysThere longer = Checks.read("n3;f0 1 1;f1 2 1;f0 2 1;s1;", 5);
        Checks.due("two furrows longer than one", longer.way(0, 2), 1);
        AlwaysThere least = Checks.read("f0 1 1;s1;", 2);
        Checks.due("the least way", least.way(1, 0), 1);
        AlwaysThere most = Checks.read("n8;f0 4 9;f4 2 9;f2 6 9;f6 1 9;f1 5 9;f5 3 9;f3 7 9;s9;", 9);
        Checks.due("the farthest way: seven furrows", most.way(0, 7), 567);
        Checks.due("and back", most.way(7, 0), 567);
        Checks.due("six of them", most.way(4, 7), 486);
        for (int over = 0; over < 8; over++) {
            int a = (over + 3) % 8;
            int b = (over + 6) % 8;
            String text = "n8;f" + a + " " + b + " 9;f" + a + " " + over + " 1;f" + over + " " + b + " 2;s1;";
            Checks.due("a way over place " + over, Checks.read(text, 5).way(a, b), 3);
        }
        AlwaysThere tired = Checks.read("f0 1 2;f1 2 2;t3;s1;", 4);
        Checks.due("a hedgehog is not tired", tired.way(0, 2), 4);
    }

    private static void wayOfNoPlace() {
        AlwaysThere x = Checks.read("n3;f0 2 1;", 2);
        Checks.due("way(0, 2)", x.way(0, 2), 3);
        for (int none : new int[] {-1, 3, 8, LEAST, MOST}) {
            Checks.due("way(0, " + none + ")", x.way(0, none), Checks.BAD);
            Checks.due("way(" + none + ", 0)", x.way(none, 0), Checks.BAD);
            Checks.due("way to where he is, which is nowhere", x.way(none, none), Checks.BAD);
        }
    }

    private static void sightsOfNoPlace() {
        AlwaysThere x = Checks.read("n3;v0 2;", 2);
        Checks.due("sights(2)", x.sights(2), 1);
        Checks.due("sights(1): none", x.sights(1), 0);
        for (int none : new int[] {-1, 3, 8, LEAST, MOST}) {
            Checks.due("sights(" + none + ")", x.sights(none), Checks.BAD);
        }
        AlwaysThere all = Checks.read("n8;v0 1;v0 2;v0 3;v0 4;v0 5;v0 6;v0 7;", 8);
        Checks.due("sights of all others", all.sights(0), 254);
    }

    private static void hedgehogOfNobody() {
        AlwaysThere x = Checks.read("h15;h0;", 2);
        Checks.due("hedgehog(0)", x.hedgehog(0), 15);
        Checks.due("hedgehog(1)", x.hedgehog(1), 0);
        for (int none : new int[] {-1, 2, 5, LEAST, MOST}) {
            Checks.due("hedgehog(" + none + ")", x.hedgehog(none), Checks.BAD);
        }
        Checks.due("hedgehog(0) of nobody", new AlwaysThere().hedgehog(0), Checks.BAD);
    }

    private static void pointOfNoPoint() {
        AlwaysThere x = Checks.read("f0 1 1;c0 1 0;", 2);
        AlwaysThere none = new AlwaysThere();
        for (int what = 0; what < 6; what++) {
            Checks.holds("point(2, " + what + ") is there", x.point(2, what) != Checks.BAD);
            Checks.due("point(3, " + what + ")", x.point(3, what), Checks.BAD);
            Checks.due("point(-1, " + what + ")", x.point(-1, what), Checks.BAD);
            Checks.due("point(8, " + what + ")", x.point(8, what), Checks.BAD);
            Checks.due("point(least, " + what + ")", x.point(LEAST, what), Checks.BAD);
            Checks.due("point(most, " + what + ")", x.point(MOST, what), Checks.BAD);
            Checks.due("point(0, " + what + ") without a course", none.point(0, what), Checks.BAD);
        }
    }

    private static void pointOfNoSuchWhat() {
        AlwaysThere x = Checks.read("c2;", 1);
        int[] due = {2, 0, 0, 0, 0, Checks.NONE};
        for (int what = 0; what < due.length; what++) {
            Checks.due("point(0, " + what + ")", x.point(0, what), due[what]);
        }
        for (int what : new int[] {-1, 6, LEAST, MOST}) {
            Checks.due("point(0, " + what + ")", x.point(0, what), Checks.BAD);
            Checks.due("point(1, " + what + ")", x.point(1, what), Checks.BAD);
        }
    }

    /** "the HARE is at POINT 0 in minute 0". */
    private static void hareIsAtPoint0InMinute0() {
        AlwaysThere x = Checks.read("f0 1 1;t3;c0 1;", 3);
        Checks.due("point(0, 1)", x.point(0, 1), 0);
        x.waits(0, 20);
        Checks.due("point(0, 1) when he waits there", x.point(0, 1), 0);
        Checks.due("point(1, 1)", x.point(1, 1), 21);
    }

    /** "a FURROW takes him its LENGTH and, times how many he ran ahead of it, TIRED". */
    private static void tiredTimesHowManyHeRan() {
        for (int tired = 0; tired <= 3; tired++) {
            AlwaysThere x = Checks.read("f0 1 1;t" + tired + ";c0 1 0 1 0 1 0 1;", 3);
            int minute = 0;
            for (int i = 0; i < 8; i++) {
                Checks.due("point(" + i + ", 1)", x.point(i, 1), minute);
                minute += 1 + i * tired;
            }
        }
        AlwaysThere latest = Checks.read("f0 1 9;t3;c0 1 0 1 0 1 0 1;", 3);
        Checks.due("without waiting", latest.race(3), 126);
        for (int i = 0; i < 8; i++) {
            latest.waits(i, 20);
        }
        Checks.due("the latest there can be", latest.race(3), 266);
    }

    private static void countOfNoSuchWhat() {
        AlwaysThere x = new AlwaysThere();
        for (int what : new int[] {-1, 8, LEAST, MOST}) {
            Checks.due("count(" + what + ")", x.count(what), Checks.BAD);
        }
    }

    /** "0 PLACES, 1 HEDGEHOGS, 2 POINTS, 3 SITS, 4 letters of THE TEXT, 5 SLOW, 6 TIRED, 7 RUBS": least and most. */
    private static void countsEmptyAndFull() {
        AlwaysThere least = Checks.read("n2;s1;t0;r0;", 4);
        int[] few = {2, 0, 0, 0, 0, 1, 0, 0};
        AlwaysThere full = Checks.read("n8;f0 1 1;h1;h2;h3;h4;h5;s9;t3;r99;c0 1 0 1 0 1 0 1;", 11);
        for (int i = 0; i < 12; i++) {
            full.sits(i % 5, 0, i, i);
        }
        Checks.tell(full, "x".repeat(201));
        int[] many = {8, 5, 8, 12, 200, 9, 3, 99};
        for (int what = 0; what < 8; what++) {
            Checks.due("count(" + what + ") at the least", least.count(what), few[what]);
            Checks.due("count(" + what + ") at the most", full.count(what), many[what]);
        }
    }
}
