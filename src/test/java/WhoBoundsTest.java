/** Each sentence about SEEN, FITS, SURE, ASK and BET that names a bound (promises 18 to 23). */
public final class WhoBoundsTest {
    private static final int LEAST = Integer.MIN_VALUE, MOST = Integer.MAX_VALUE;

    public static void main(String[] args) {
        seenAre0To15();
        seenAtNoPoint();
        seenToldAgain();
        nothingSeenIsNotSeenNothing();
        forgetCountsPoints();
        allOfTheseHeHas();
        rubbedOffFromThatMinuteOn();
        rubbedOffAtPoint0();
        rubsAre99AtMost();
        rubs0IsNever();
        fitsWithoutACourse();
        fitsWithNobody();
        fitsJustInTime();
        fitsAtTheMost();
        sureOfNoPoint();
        sureOrNotOneAlone();
        sureWhereThereIsNoWay();
        askOfNobody();
        askIsTheFewestThenTheLeast();
        askOfThoseAlike();
        betBy0To10();
        betOfPoints();
        betOfNoSuchWhat();
        Checks.end();
    }

    private static long aRace(AlwaysThere x) {
        Checks.tell(x, "f0 1 5;h3;h5;s1;r4;c0 1 0;");
        long items = x.furrows();
        x.waits(1, 2);
        x.sits(0, 0, 0, 3);
        x.saw(1, 2);
        x.keep(0);
        return items;
    }

    /** "SEEN at a POINT (... 0 .. 15)". */
    private static void seenAre0To15() {
        AlwaysThere x = Checks.read("c0;", 1);
        int ahead = Checks.NONE;
        for (int marks = 0; marks <= 15; marks++) {
            Checks.due("saw(0, " + marks + ")", x.saw(0, marks), ahead);
            Checks.due("point(0, 5)", x.point(0, 5), marks);
            ahead = marks;
        }
        for (int marks : new int[] {-1, 16, Checks.NONE, LEAST, MOST}) {
            Twins.unchanged("saw(0, " + marks + ")", WhoBoundsTest::aRace, y -> y.saw(0, marks), Checks.BAD);
            Twins.unchanged("saw(1, " + marks + ")", WhoBoundsTest::aRace, y -> y.saw(1, marks), Checks.BAD);
        }
    }

    private static void seenAtNoPoint() {
        Checks.due("saw at the last point", Checks.read("f0 1 1;c0 1 0;", 2).saw(2, 0), Checks.NONE);
        for (int i : new int[] {-1, 3, 8, LEAST, MOST}) {
            Twins.unchanged("saw(" + i + ", 0)", WhoBoundsTest::aRace, y -> y.saw(i, 0), Checks.BAD);
        }
        Checks.due("saw without a course", new AlwaysThere().saw(0, 0), Checks.BAD);
    }

    /** "(told again: the later one counts ...)", "what was SEEN there ahead (NONE)". */
    private static void seenToldAgain() {
        AlwaysThere x = Checks.read("f0 1 1;h1;h2;s1;c0 1;", 5);
        Checks.due("saw(0, 1)", x.saw(0, 1), Checks.NONE);
        Checks.due("sure(0)", x.sure(0), 0);
        Checks.due("saw(0, 2)", x.saw(0, 2), 1);
        Checks.due("sure(0)", x.sure(0), 1);
        Checks.due("saw(0, 2) again", x.saw(0, 2), 2);
        Checks.due("saw(1, 2): another point", x.saw(1, 2), Checks.NONE);
        Checks.due("forget()", x.forget(), 2);
        Checks.due("saw(0, 0)", x.saw(0, 0), Checks.NONE);
    }

    /** "so that he can be SEEN so (where something was)": 0 MARKS that were SEEN are something, too. */
    private static void nothingSeenIsNotSeenNothing() {
        AlwaysThere x = Checks.read("h1;c0;", 2);
        Checks.due("fits() when nothing was seen", x.fits(), 1);
        x.saw(0, 0);
        Checks.due("point(0, 5)", x.point(0, 5), 0);
        Checks.due("fits() when one without marks was seen", x.fits(), 0);
        Checks.due("forget()", x.forget(), 1);
        Checks.due("point(0, 5)", x.point(0, 5), Checks.NONE);
        Checks.due("fits()", x.fits(), 1);
        AlwaysThere bare = Checks.read("h0;c0;", 2);
        bare.saw(0, 0);
        Checks.due("fits() of one without marks", bare.fits(), 1);
    }

    /** "Nothing was SEEN: at how many POINTS something was." */
    private static void forgetCountsPoints() {
        Checks.due("forget() without a course", new AlwaysThere().forget(), 0);
        AlwaysThere x = Checks.read("f0 1 1;c0 1 0 1 0 1 0 1;", 2);
        Checks.due("forget() of none", x.forget(), 0);
        for (int many = 1; many <= 8; many++) {
            for (int i = 0; i < many; i++) {
                x.saw(i, 0);
                x.saw(i, i);
            }
            Checks.due("forget() of " + many, x.forget(), many);
            Checks.due("forget() again", x.forget(), 0);
        }
        Twins.alike("forget() leaves the rest", y -> {
            Checks.tell(y, "f0 1 5;h3;c0 1;");
            y.furrows();
            return y.waits(0, 2);
        }, y -> {
            Checks.tell(y, "f0 1 5;h3;c0 1;");
            y.furrows();
            y.saw(0, 3);
            y.waits(0, 2);
            return y.forget();
        });
    }

    /** "if that one has all of these (rubbed off by then or not)". */
    private static void allOfTheseHeHas() {
        for (int marks = 0; marks <= 15; marks++) {
            for (int seen = 0; seen <= 15; seen++) {
                AlwaysThere late = Checks.read("f0 1 9;h" + marks + ";s1;r1;c0 1;", 5);
                late.saw(1, seen);
                Checks.due(seen + " seen of " + marks + ", all rubbed off", late.fits(), (seen & ~marks) == 0 ? 1 : 0);
                AlwaysThere early = Checks.read("h" + marks + ";r1;c0;", 3);
                early.saw(0, seen);
                Checks.due(seen + " seen of " + marks + ", none rubbed off", early.fits(), seen == marks ? 1 : 0);
            }
        }
    }

    /** "a MARK is rubbed off from minute RUBS times what its bit's number and 1 are together on". */
    private static void rubbedOffFromThatMinuteOn() {
        for (int minute = 1; minute <= 21; minute++) {
            AlwaysThere x = Checks.read("f0 1 1;h15;s1;r5;c0 1;", 5);
            x.waits(0, minute - 1);
            Checks.due("point(1, 1)", x.point(1, 1), minute);
            for (int bit = 0; bit < 4; bit++) {
                x.saw(1, 15 - (1 << bit));
                boolean rubbed = minute >= 5 * (bit + 1);
                Checks.due("bit " + bit + " missing in minute " + minute, x.fits(), rubbed ? 1 : 0);
                Checks.due("sure(1)", x.sure(1), rubbed ? 0 : Checks.NONE);
            }
            x.saw(1, 15);
            Checks.due("all seen in minute " + minute, x.fits(), 1);
            x.saw(1, 0);
            Checks.due("none seen in minute " + minute, x.fits(), minute >= 20 ? 1 : 0);
        }
    }

    private static void rubbedOffAtPoint0() {
        AlwaysThere x = Checks.read("f0 1 1;h1;s1;r1;c0 1;", 5);
        x.saw(0, 0);
        Checks.due("in minute 0 nothing is rubbed off", x.fits(), 0);
        x.waits(0, 20);
        Checks.due("nor when he waits there", x.fits(), 0);
        x.forget();
        x.saw(1, 0);
        Checks.due("in a later minute it is", x.fits(), 1);
        x.waits(0, 0);
        Checks.due("in minute 1 it is", x.fits(), 1);
    }

    private static void rubsAre99AtMost() {
        AlwaysThere x = Checks.read("f0 1 9;h3;s1;r99;c0 1 0 1 0 1 0 1;", 5);
        for (int i = 0; i < 7; i++) {
            x.waits(i, 20);
        }
        Checks.due("race(3)", x.race(3), 203);
        x.saw(7, 0);
        Checks.due("two marks are rubbed off in minute 203", x.fits(), 1);
        x.waits(0, 15);
        Checks.due("in minute 198", x.fits(), 1);
        x.waits(0, 14);
        Checks.due("race(3)", x.race(3), 197);
        Checks.due("in minute 197 one is not", x.fits(), 0);
        x.saw(7, 2);
        Checks.due("the other one is", x.fits(), 1);
    }

    /** "(RUBS 0: never)". */
    private static void rubs0IsNever() {
        String[] rubs = {"", "r0;"};
        for (String told : rubs) {
            AlwaysThere x = Checks.read("f0 1 9;h1;s1;t3;" + told + "c0 1 0 1 0 1 0 1;", told.isEmpty() ? 5 : 6);
            for (int i = 0; i < 7; i++) {
                x.waits(i, 20);
            }
            Checks.due("race(3)", x.race(3), 266);
            x.saw(7, 0);
            Checks.due("a mark in minute 266", x.fits(), 0);
            x.saw(7, 1);
            Checks.due("a mark in minute 266", x.fits(), 1);
        }
    }

    /** "FITS (no COURSE: 1)." */
    private static void fitsWithoutACourse() {
        Checks.due("fits() of a new object", new AlwaysThere().fits(), 1);
        Checks.due("fits() of five", Checks.read("h1;h1;h1;h1;h1;", 5).fits(), 1);
        Checks.due("fits() of five at one point", Checks.read("h1;h1;h1;h1;h1;c0;", 6).fits(), 5);
    }

    private static void fitsWithNobody() {
        AlwaysThere x = Checks.read("f0 1 1;c0 1;", 2);
        Checks.due("fits() of nobody", x.fits(), 0);
        Checks.due("sure(0) of nobody", x.sure(0), Checks.NONE);
        x.saw(0, 0);
        Checks.due("fits() of nobody", x.fits(), 0);
    }

    /** "and can go from each of his POINTS to his next one in time". */
    private static void fitsJustInTime() {
        AlwaysThere x = Checks.read("f0 1 9;h0;s2;c0 1;", 4);
        int[] due = {0, 0, 1, 1};
        for (int i = 0; i < due.length; i++) {
            x.waits(0, 7 + i);
            Checks.due("fits() when he waits " + (7 + i), x.fits(), due[i]);
            Checks.due("sure(1) when he waits " + (7 + i), x.sure(1), due[i] == 1 ? 0 : Checks.NONE);
        }
        AlwaysThere two = Checks.read("f0 1 9;h0;h0;s2;c0 1;", 5);
        Checks.due("two, neither in time", two.fits(), 2);
        two.waits(0, 8);
        Checks.due("a minute too late", two.fits(), 2);
        two.waits(0, 9);
        Checks.due("just in time", two.fits(), 4);
        AlwaysThere round = Checks.read("f0 1 1;f1 2 1;f0 2 1;h0;h0;s2;c0 1 2;", 7);
        Checks.due("from the first to the third just in time", round.fits(), 2);
        AlwaysThere late = Checks.read("f0 1 1;f1 2 1;f0 2 1;h0;h0;s3;c0 1 2;", 7);
        Checks.due("a minute too late", late.fits(), 0);
    }

    private static void fitsAtTheMost() {
        AlwaysThere all = Checks.read("f0 1 1;h0;h0;h0;h0;h0;s1;c0 1 0 1 0 1 0 1;", 8);
        Checks.due("five at eight points", all.fits(), 390625);
        for (int i = 0; i < 8; i++) {
            all.saw(i, 0);
        }
        Checks.due("all of them seen", all.fits(), 390625);
        all.saw(7, 1);
        Checks.due("one who is nobody", all.fits(), 0);
        Checks.due("sure(0)", all.sure(0), Checks.NONE);
        AlwaysThere one = Checks.read("f0 1 1;h0;s1;c0 1 0 1 0 1 0 1;", 4);
        Checks.due("one at eight points", one.fits(), 1);
        for (int i = 0; i < 8; i++) {
            Checks.due("sure(" + i + ")", one.sure(i), 0);
        }
    }

    private static void sureOfNoPoint() {
        AlwaysThere x = Checks.read("f0 1 1;h0;s1;c0 1 0;", 4);
        Checks.due("sure(2)", x.sure(2), 0);
        for (int i : new int[] {-1, 3, 8, LEAST, MOST}) {
            Checks.due("sure(" + i + ")", x.sure(i), Checks.BAD);
        }
        Checks.due("sure(0) without a course", Checks.read("h0;", 1).sure(0), Checks.BAD);
    }

    /** "SURE of a POINT: the HEDGEHOG that is there in all ways; -5: not one alone". */
    private static void sureOrNotOneAlone() {
        AlwaysThere x = Checks.read("f0 1 1;h0;h1;h0;h0;h2;s1;c0 1;", 8);
        Checks.due("sure(0) of five", x.sure(0), -5);
        x.saw(0, 0);
        Checks.due("sure(0) of three alike", x.sure(0), -5);
        x.saw(0, 1);
        Checks.due("sure(0)", x.sure(0), 1);
        Checks.due("sure(1): nothing was seen there", x.sure(1), -5);
        x.saw(0, 2);
        Checks.due("sure(0): the last one", x.sure(0), 4);
        AlwaysThere first = Checks.read("f0 1 1;h1;h0;h0;s1;c0 1;", 6);
        first.saw(1, 1);
        Checks.due("sure(1): the first one", first.sure(1), 0);
        AlwaysThere driven = Checks.read("f0 1 5;h1;h2;c0 1 0;", 4);
        driven.saw(1, 2);
        Checks.due("sure(0), by what was seen elsewhere", driven.sure(0), 0);
        Checks.due("sure(2), by what was seen elsewhere", driven.sure(2), 0);
    }

    /** "NONE: no way". */
    private static void sureWhereThereIsNoWay() {
        AlwaysThere x = Checks.read("f0 1 1;h1;h2;s1;c0 1 0;", 5);
        x.saw(2, 3);
        for (int i = 0; i < 3; i++) {
            Checks.due("sure(" + i + "), when one point has nobody", x.sure(i), Checks.NONE);
        }
        AlwaysThere late = Checks.read("f0 1 1;h1;h2;s9;c0 1;", 5);
        late.saw(0, 1);
        late.saw(1, 1);
        Checks.due("sure(0), when one can't be at both", late.sure(0), Checks.NONE);
        Checks.due("fits()", late.fits(), 0);
    }

    /** "ASK a set of HEDGEHOGS (bits)", "BAD". */
    private static void askOfNobody() {
        StringBuilder text = new StringBuilder();
        for (int many = 0; many <= 5; many++) {
            AlwaysThere x = Checks.read(text.toString(), many);
            Checks.due("ask(0): none", x.ask(0), 0);
            Checks.holds("ask of all " + many, x.ask((1 << many) - 1) >= 0);
            Checks.due("ask of one beyond", x.ask(1 << many), Checks.BAD);
            Checks.due("ask of all and one beyond", x.ask((2 << many) - 1), Checks.BAD);
            for (int none : new int[] {-1, Checks.NONE, 32, 256, LEAST, MOST, LEAST + 1}) {
                Checks.due("ask(" + none + ")", x.ask(none), Checks.BAD);
            }
            for (int h = 0; h < many; h++) {
                Checks.due("ask of one alone", x.ask(1 << h), 0);
            }
            text.append('h').append(many).append(';');
        }
    }

    /** "the fewest MARKS (bits, the least set of these) by which no two of them are alike". */
    private static void askIsTheFewestThenTheLeast() {
        for (int bit = 0; bit < 4; bit++) {
            AlwaysThere x = Checks.read("h0;h" + (1 << bit) + ";", 2);
            Checks.due("one mark: " + bit, x.ask(3), 1 << bit);
        }
        Checks.due("each would do: the least", Checks.read("h0;h15;", 2).ask(3), 1);
        Checks.due("8 alone, not 1 and 2", Checks.read("h8;h0;", 2).ask(3), 8);
        Checks.due("two marks", Checks.read("h0;h1;h2;h3;", 4).ask(15), 3);
        Checks.due("two marks, with a greater number than three", Checks.read("h0;h1;h12;h11;", 4).ask(15), 9);
        Checks.due("three marks", Checks.read("h0;h1;h2;h4;", 4).ask(15), 7);
        Checks.due("all four marks", Checks.read("h0;h1;h2;h4;h8;", 5).ask(31), 15);
        Checks.due("five by three marks", Checks.read("h0;h1;h2;h3;h4;", 5).ask(31), 7);
        Checks.due("marks that rub off are asked alike", Checks.read("h0;h1;r1;", 3).ask(3), 1);
    }

    /** "by which no two of them are alike; NONE". */
    private static void askOfThoseAlike() {
        AlwaysThere x = Checks.read("h5;h3;h5;h3;h0;", 5);
        Checks.due("two alike", x.ask(5), Checks.NONE);
        Checks.due("two others alike", x.ask(10), Checks.NONE);
        Checks.due("all", x.ask(31), Checks.NONE);
        Checks.due("those alike are not asked", x.ask(3), 2);
        Checks.due("those alike are not asked", x.ask(19), 3);
        Checks.due("those alike are not asked", x.ask(28), 3);
    }

    private static void bet(AlwaysThere x, int p, long upper, long lower) {
        Checks.due("bet(" + p + ", 0)", x.bet(p, 0), upper);
        Checks.due("bet(" + p + ", 1)", x.bet(p, 1), lower);
    }

    /** "BET by p (0 .. 10)", "in least terms". */
    private static void betBy0To10() {
        long[][] one = {{1, 1}, {9, 10}, {4, 5}, {7, 10}, {3, 5}, {1, 2}, {2, 5}, {3, 10}, {1, 5}, {1, 10}, {0, 1}};
        AlwaysThere two = Checks.read("f0 1 1;c0 1;", 2);
        AlwaysThere three = Checks.read("f0 1 1;c0 1 0;", 2);
        for (int p = 0; p <= 10; p++) {
            bet(two, p, one[p][0], one[p][1]);
            bet(three, p, one[p][0] * one[p][0], one[p][1] * one[p][1]);
        }
        for (int p : new int[] {-1, 11, LEAST, MOST}) {
            bet(two, p, Checks.BAD, Checks.BAD);
            bet(new AlwaysThere(), p, Checks.BAD, Checks.BAD);
        }
    }

    /** "at each POINT but the last one the HARE stops", "(no COURSE: 0 by 1)". */
    private static void betOfPoints() {
        for (int p = 0; p <= 10; p++) {
            bet(new AlwaysThere(), p, 0, 1);
            bet(Checks.read("h1;", 1), p, 0, 1);
            bet(Checks.read("c0;", 1), p, 1, 1);
        }
        AlwaysThere eight = Checks.read("f0 1 1;c0 1 0 1 0 1 0 1;", 2);
        bet(eight, 0, 1, 1);
        bet(eight, 1, 4782969, 10000000);
        bet(eight, 3, 823543, 10000000);
        bet(eight, 5, 1, 128);
        bet(eight, 8, 1, 78125);
        bet(eight, 9, 1, 10000000);
        bet(eight, 10, 0, 1);
        eight.waits(0, 20);
        bet(eight, 9, 1, 10000000);
    }

    private static void betOfNoSuchWhat() {
        AlwaysThere x = Checks.read("f0 1 1;c0 1;", 2);
        for (int what : new int[] {-1, 2, LEAST, MOST}) {
            Checks.due("bet(5, " + what + ")", x.bet(5, what), Checks.BAD);
            Checks.due("bet(5, " + what + ") without a course", new AlwaysThere().bet(5, what), Checks.BAD);
        }
    }
}
