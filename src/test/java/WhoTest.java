/** Promises 18 to 23: saw, forget, fits, sure, ask, bet. */
public final class WhoTest {
    public static void main(String[] args) {
        seeing();
        nobodyOrNowhere();
        rubbingOff();
        rubbingNever();
        goingInTime();
        beingSure();
        asking();
        betting();
        Checks.end();
    }

    private static void seeing() {
        AlwaysThere x = Checks.read("f0 1 5;h0;c0 1;", 3);
        Checks.due("saw(0, 15)", x.saw(0, 15), Checks.NONE);
        Checks.due("saw(0, 0)", x.saw(0, 0), 15);
        Checks.due("saw(0, 7)", x.saw(0, 7), 0);
        Checks.due("saw(1, 1)", x.saw(1, 1), Checks.NONE);
        Checks.due("point(0, 5)", x.point(0, 5), 7);
        Checks.due("saw(2, 0)", x.saw(2, 0), Checks.BAD);
        Checks.due("saw(-1, 0)", x.saw(-1, 0), Checks.BAD);
        Checks.due("saw(0, 16)", x.saw(0, 16), Checks.BAD);
        Checks.due("saw(0, -1)", x.saw(0, -1), Checks.BAD);
        Checks.due("point(0, 5)", x.point(0, 5), 7);
        Checks.due("race(4): saw is not undone", x.race(4), 0);
        Checks.due("forget()", x.forget(), 2);
        Checks.due("point(0, 5)", x.point(0, 5), Checks.NONE);
        Checks.due("point(1, 5)", x.point(1, 5), Checks.NONE);
        Checks.due("forget()", x.forget(), 0);
    }

    private static void nobodyOrNowhere() {
        Checks.due("fits() without a course", Checks.read("h0;h0;", 2).fits(), 1);
        Checks.due("forget() of a new object", new AlwaysThere().forget(), 0);
        AlwaysThere nobody = Checks.read("c0;", 1);
        Checks.due("fits() with nobody", nobody.fits(), 0);
        Checks.due("sure(0) with nobody", nobody.sure(0), Checks.NONE);
        Checks.due("sure(1)", nobody.sure(1), Checks.BAD);
        Checks.due("sure(-1)", nobody.sure(-1), Checks.BAD);
    }

    private static void rubbingOff() {
        AlwaysThere x = Checks.read("f0 1 7;h15;r4;c0 1 0 1;", 4);
        int[] minutes = {0, 7, 14, 21};
        int[] rubbed = {0, 1, 7, 15};
        for (int i = 0; i < 4; i++) {
            Checks.due("point(i, 1)", x.point(i, 1), minutes[i]);
            for (int seen = 0; seen < 16; seen++) {
                AlwaysThere y = Checks.read("f0 1 7;h15;s1;r4;c0 1 0 1;", 5);
                y.saw(i, seen);
                boolean can = (15 & ~seen & ~rubbed[i]) == 0;
                Checks.due("fits() with " + seen + " at " + i, y.fits(), can ? 1 : 0);
                Checks.due("sure() with " + seen + " at " + i, y.sure(i), can ? 0 : Checks.NONE);
            }
        }
        AlwaysThere edge = Checks.read("f0 1 4;h3;s1;r2;c0 1;", 5);
        edge.saw(1, 0);
        Checks.due("rubbed off from that very minute on", edge.fits(), 1);
        AlwaysThere early = Checks.read("f0 1 3;h3;s1;r2;c0 1;", 5);
        early.saw(1, 0);
        Checks.due("a minute too early", early.fits(), 0);
        early.waits(0, 1);
        Checks.due("a minute later", early.fits(), 1);
        AlwaysThere more = Checks.read("f0 1 9;h3;s1;r1;c0 1;", 5);
        more.saw(1, 4);
        Checks.due("a mark that he has not", more.fits(), 0);
    }

    private static void rubbingNever() {
        AlwaysThere x = Checks.read("f0 1 9;h3;h1;s1;c0 1;", 5);
        x.saw(1, 1);
        Checks.due("fits()", x.fits(), 2);
        Checks.due("sure(1)", x.sure(1), 1);
        Checks.due("sure(0)", x.sure(0), -5);
        x.saw(1, 0);
        Checks.due("fits()", x.fits(), 0);
    }

    private static void goingInTime() {
        AlwaysThere x = Checks.read("f0 1 5;h0;h0;h0;c0 1 0;", 5);
        Checks.due("fits(): 0 and 2 may be one", x.fits(), 12);
        x.waits(0, 10);
        Checks.due("fits()", x.fits(), 18);
        x.waits(1, 10);
        Checks.due("fits(), when one alone can do it", x.fits(), 27);
        x.sits(0, 3, 0, 999);
        Checks.due("fits(), whoever sits", x.fits(), 27);
        AlwaysThere many = Checks.read("f0 1 1;h0;h0;h0;h0;h0;s1;c0 1 0 1 0 1 0 1;", 8);
        Checks.due("the most ways", many.fits(), 390625);
        Checks.due("sure(7) of five", many.sure(7), -5);
    }

    private static void beingSure() {
        AlwaysThere x = Checks.read("f0 1 5;h1;h2;c0 1 0;", 4);
        Checks.due("sure(0)", x.sure(0), -5);
        x.saw(1, 1);
        Checks.due("sure(1)", x.sure(1), 0);
        Checks.due("sure(0), as the other one is at 1", x.sure(0), 1);
        Checks.due("sure(2)", x.sure(2), 1);
        Checks.due("fits()", x.fits(), 1);
        x.saw(2, 1);
        Checks.due("sure(0), if there is no way", x.sure(0), Checks.NONE);
        Checks.due("sure(3)", x.sure(3), Checks.BAD);
        AlwaysThere fifth = Checks.read("f0 1 5;h1;h1;h1;h1;h2;s1;c0 1;", 8);
        fifth.saw(1, 2);
        Checks.due("sure(1): the last one", fifth.sure(1), 4);
        Checks.due("sure(0)", fifth.sure(0), -5);
    }

    private static void asking() {
        AlwaysThere x = Checks.read("h3;h5;h9;h3;h0;", 5);
        Checks.due("ask(0)", x.ask(0), 0);
        Checks.due("ask(16)", x.ask(16), 0);
        Checks.due("ask(17)", x.ask(17), 1);
        Checks.due("ask(3)", x.ask(3), 2);
        Checks.due("ask(7)", x.ask(7), 6);
        Checks.due("ask(23)", x.ask(23), 7);
        Checks.due("ask(9)", x.ask(9), Checks.NONE);
        Checks.due("ask(31)", x.ask(31), Checks.NONE);
        Checks.due("ask(32)", x.ask(32), Checks.BAD);
        Checks.due("ask(-1)", x.ask(-1), Checks.BAD);
        AlwaysThere few = Checks.read("h7;h8;", 2);
        Checks.due("ask(3): the least of those with so few", few.ask(3), 1);
        Checks.due("ask(4)", few.ask(4), Checks.BAD);
        AlwaysThere high = Checks.read("h0;h4;h8;h12;", 4);
        Checks.due("ask(15): two marks, not the lesser ones", high.ask(15), 12);
        AlwaysThere all = Checks.read("h15;h14;h13;h11;h7;", 5);
        Checks.due("ask(31): all marks", all.ask(31), 15);
        AlwaysThere late = Checks.read("h0;h1;h12;h11;", 4);
        Checks.due("ask(15): two marks, though three with a lesser number would do", late.ask(15), 9);
        Checks.due("ask(0) of nobody", new AlwaysThere().ask(0), 0);
        Checks.due("ask(1) of nobody", new AlwaysThere().ask(1), Checks.BAD);
    }

    private static void bet(AlwaysThere x, int p, long upper, long lower) {
        Checks.due("bet(" + p + ", 0)", x.bet(p, 0), upper);
        Checks.due("bet(" + p + ", 1)", x.bet(p, 1), lower);
    }

    private static void betting() {
        for (int p = 0; p <= 10; p++) {
            bet(new AlwaysThere(), p, 0, 1);
            bet(Checks.read("c0;", 1), p, 1, 1);
        }
        AlwaysThere x = Checks.read("f0 1 1;c0 1 0 1 0 1 0 1;", 2);
        bet(x, 0, 1, 1);
        bet(x, 1, 4782969, 10000000);
        bet(x, 2, 16384, 78125);
        bet(x, 5, 1, 128);
        bet(x, 9, 1, 10000000);
        bet(x, 10, 0, 1);
        bet(Checks.read("f0 1 1;c0 1 0;", 2), 4, 9, 25);
        Checks.due("bet(-1, 0)", x.bet(-1, 0), Checks.BAD);
        Checks.due("bet(11, 1)", x.bet(11, 1), Checks.BAD);
        Checks.due("bet(0, 2)", x.bet(0, 2), Checks.BAD);
        Checks.due("bet(0, -1)", x.bet(0, -1), Checks.BAD);
        Checks.due("bet(0, 2) without a course", new AlwaysThere().bet(0, 2), Checks.BAD);
    }
}
