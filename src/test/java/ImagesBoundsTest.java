/** Each sentence about KINDS, THE TRACE and IMAGES that names a bound (promises 24 to 26 and 28). */
public final class ImagesBoundsTest {
    private static final int LEAST = Integer.MIN_VALUE, MOST = Integer.MAX_VALUE;
    private static final String TEXT = "f0 1 5;h3;h3;h4;c0 1 0;";

    public static void main(String[] args) {
        rateOfNoKindOrNobody();
        hedgehogHas0To4Marks();
        wifeSits0To12Times();
        twinHas0To4Others();
        motherIsTwiceWife();
        cousinIsTwinAndHisNumber();
        judgeOf0To8Points();
        traceIs0AtFirst();
        traceAddsEachBodyOnce();
        traceGoesOn();
        rateChangesTheTraceAlone();
        imagesAre0And1();
        imageThatWasNotKept();
        imageOfNothing();
        imageOfAll();
        imageOfOtherSits();
        imagesAreApart();
        keptAgain();
        nothingIsUndoneBehindBack();
        keepLeavesWhatCanBeUndone();
        backBringsNothingElse();
        imagesAreGoneWhenReadAnew();
        objectsShareNothing();
        Checks.end();
    }

    private static long aRace(AlwaysThere x) {
        Checks.tell(x, TEXT);
        long items = x.furrows();
        x.sits(0, 0, 0, 7);
        x.waits(0, 3);
        x.saw(2, 4);
        x.keep(1);
        x.waits(1, 5);
        return items;
    }

    /** "RATE. NO: BAD." */
    private static void rateOfNoKindOrNobody() {
        for (int kind : new int[] {-1, 6, LEAST, MOST}) {
            Twins.unchanged("rate(" + kind + ", 0)", ImagesBoundsTest::aRace, x -> x.rate(kind, 0), Checks.NO);
        }
        for (int h : new int[] {-1, 3, 5, LEAST, MOST}) {
            for (int kind = 0; kind < 6; kind++) {
                int of = kind;
                String name = "rate(" + kind + ", " + h + ")";
                Twins.unchanged(name, ImagesBoundsTest::aRace, x -> x.rate(of, h), Checks.NO);
            }
        }
        AlwaysThere nobody = new AlwaysThere();
        Checks.due("rate(0, 0) of nobody", nobody.rate(0, 0), Checks.NO);
        Checks.due("trace()", nobody.trace(), 0);
        AlwaysThere x = Checks.read("h0;h0;h0;h0;h0;", 5);
        Checks.due("rate of the last kind and the last one", x.rate(5, 4), 0);
    }

    /** "HEDGEHOG how many MARKS he has". */
    private static void hedgehogHas0To4Marks() {
        for (int marks = 0; marks <= 15; marks++) {
            Checks.due("marks " + marks, Checks.read("h" + marks + ";", 1).rate(0, 0), Integer.bitCount(marks));
        }
        AlwaysThere rubbed = Checks.read("f0 1 9;h15;r1;c0 1;", 4);
        Checks.due("rubbed off or not", rubbed.rate(0, 0), 4);
    }

    /** "WIFE up, and how many SITS of his there are". */
    private static void wifeSits0To12Times() {
        AlwaysThere x = Checks.read("h1;h0;", 2);
        for (int i = 0; i <= 12; i++) {
            Checks.due("rate(1, 0) with " + i, x.rate(1, 0), 1 + i);
            Checks.due("rate(1, 1): none of his", x.rate(1, 1), 0);
            x.sits(0, 0, i, i);
        }
        x.undo();
        Checks.due("rate(1, 0) when one is undone", x.rate(1, 0), 12);
    }

    /** "TWIN up less how many others have just his MARKS". */
    private static void twinHas0To4Others() {
        StringBuilder text = new StringBuilder();
        for (int many = 1; many <= 5; many++) {
            text.append("h8;");
            AlwaysThere x = Checks.read(text.toString(), many);
            for (int h = 0; h < many; h++) {
                Checks.due("rate(2, " + h + ") of " + many, x.rate(2, h), 2 - many);
            }
        }
        Checks.due("just his, not more", Checks.read("h1;h3;h0;", 3).rate(2, 0), 1);
        Checks.due("the least there can be", Checks.read("h0;h0;h0;h0;h0;", 5).rate(2, 0), -4);
    }

    /** "MOTHER twice up". */
    private static void motherIsTwiceWife() {
        AlwaysThere x = Checks.read("h15;h0;", 2);
        Checks.due("rate(3, 1): nothing twice", x.rate(3, 1), 0);
        for (int i = 0; i < 12; i++) {
            x.sits(0, 0, i, i);
        }
        Checks.due("rate(3, 0): the most", x.rate(3, 0), 32);
    }

    /** "COUSIN up, and his number". */
    private static void cousinIsTwinAndHisNumber() {
        AlwaysThere x = Checks.read("h0;h0;h0;h0;h0;", 5);
        for (int h = 0; h < 5; h++) {
            Checks.due("rate(4, " + h + ")", x.rate(4, h), h - 4);
        }
        Checks.due("rate(4, 4) of one alone", Checks.read("h0;h0;h0;h0;h15;", 5).rate(4, 4), 8);
    }

    /** "JUDGE up, and how many POINTS there are". */
    private static void judgeOf0To8Points() {
        Checks.due("rate(5, 0) without a course", Checks.read("h7;", 1).rate(5, 0), 3);
        Checks.due("rate(5, 0) of one point", Checks.read("h7;c0;", 2).rate(5, 0), 4);
        Checks.due("rate(5, 0) of eight", Checks.read("f0 1 1;h7;c0 1 0 1 0 1 0 1;", 3).rate(5, 0), 11);
    }

    /** "THE TRACE, 0 at first". */
    private static void traceIs0AtFirst() {
        Checks.due("trace() of a new object", new AlwaysThere().trace(), 0);
        AlwaysThere x = new AlwaysThere();
        aRace(x);
        Checks.due("trace() before any rate()", x.trace(), 0);
    }

    /** "as often as rate() asks that body: each once". */
    private static void traceAddsEachBodyOnce() {
        long[] added = {1, 11, 101, 1011, 10101, 100001};
        for (int kind = 0; kind < 6; kind++) {
            AlwaysThere x = Checks.read(TEXT, 5);
            for (int times = 1; times <= 3; times++) {
                x.rate(kind, times - 1);
                Checks.due("trace() behind kind " + kind, x.trace(), added[kind] * times);
            }
        }
        AlwaysThere most = Checks.read("h0;", 1);
        for (int times = 0; times < 500; times++) {
            most.rate(5, 0);
        }
        Checks.due("trace() behind 500", most.trace(), 50000500);
    }

    /** "THE TRACE goes on, as behind undo(), back()". */
    private static void traceGoesOn() {
        AlwaysThere x = Checks.read(TEXT, 5);
        x.rate(1, 0);
        x.keep(0);
        x.sits(0, 0, 0, 0);
        x.rate(2, 0);
        x.undo();
        Checks.due("trace() behind undo()", x.trace(), 112);
        x.back(0);
        Checks.due("trace() behind back()", x.trace(), 112);
        Checks.tell(x, "h1;");
        x.furrows();
        Checks.due("trace() behind furrows()", x.trace(), 112);
        Checks.tell(x, "x");
        x.furrows();
        x.clear();
        x.furrows();
        Checks.due("trace() behind furrows() of nothing", x.trace(), 112);
        Checks.tell(x, "h1;");
        x.furrows();
        x.rate(0, 0);
        Checks.due("trace() goes on", x.trace(), 113);
    }

    private static void rateChangesTheTraceAlone() {
        for (int kind = 0; kind < 6; kind++) {
            int of = kind;
            Twins.alike("rate of kind " + kind, x -> {
                x.type('h');
                x.type('1');
                x.type(';');
                x.furrows();
                x.rate(of, 0);
                return aRace(x);
            }, x -> {
                aRace(x);
                return x.rate(of, 2);
            });
        }
    }

    /** "IMAGES 0, 1 keep NOW", "BAD". */
    private static void imagesAre0And1() {
        for (int image : new int[] {-1, 2, LEAST, MOST}) {
            Twins.unchanged("keep(" + image + ")", ImagesBoundsTest::aRace, x -> x.keep(image), Checks.BAD);
            Twins.unchanged("back(" + image + ")", ImagesBoundsTest::aRace, x -> x.back(image), Checks.BAD);
            Checks.due("back(" + image + ") of a new object", new AlwaysThere().back(image), Checks.BAD);
        }
        for (int image = 0; image < 2; image++) {
            AlwaysThere x = Checks.read(TEXT, 5);
            x.sits(0, 0, 0, 0);
            Checks.due("keep(" + image + ")", x.keep(image), 1);
            x.undo();
            Checks.due("back(" + image + ")", x.back(image), 1);
        }
    }

    /** "STATE: none was kept". */
    private static void imageThatWasNotKept() {
        Checks.due("back(0) of a new object", new AlwaysThere().back(0), Checks.STATE);
        Checks.due("back(1) of a new object", new AlwaysThere().back(1), Checks.STATE);
        Twins.unchanged("back(0), when 1 was kept", ImagesBoundsTest::aRace, x -> x.back(0), Checks.STATE);
        AlwaysThere x = Checks.read(TEXT, 5);
        x.keep(0);
        Checks.due("back(1), when 0 was kept", x.back(1), Checks.STATE);
        Checks.due("back(0)", x.back(0), 0);
    }

    private static void imageOfNothing() {
        AlwaysThere fresh = new AlwaysThere();
        Checks.due("keep(0) of a new object", fresh.keep(0), 0);
        Checks.due("back(0) of a new object", fresh.back(0), 0);
        AlwaysThere x = Checks.read(TEXT, 5);
        Checks.due("keep(1) of nothing", x.keep(1), 0);
        x.sits(0, 0, 0, 7);
        x.waits(0, 3);
        x.saw(2, 4);
        Checks.due("back(1) to nothing", x.back(1), 0);
        Checks.due("count(3)", x.count(3), 0);
        Checks.due("race(3)", x.race(3), 10);
        Checks.due("point(0, 2)", x.point(0, 2), 0);
        Checks.due("point(2, 5)", x.point(2, 5), Checks.NONE);
        Checks.due("forget()", x.forget(), 0);
    }

    private static void imageOfAll() {
        AlwaysThere x = Checks.read("f0 1 1;h0;c0 1 0 1 0 1 0 1;", 3);
        for (int i = 0; i < 12; i++) {
            x.sits(0, 0, i, i + 1);
        }
        for (int i = 0; i < 8; i++) {
            x.waits(i, 20 - i);
            x.saw(i, 15 - i);
        }
        Checks.due("keep(0) of twelve", x.keep(0), 12);
        for (int i = 0; i < 8; i++) {
            x.waits(i, 0);
        }
        x.forget();
        Checks.due("back(0) to twelve", x.back(0), 12);
        for (int i = 0; i < 12; i++) {
            Checks.due("sat(" + i + ", 2)", x.sat(i, 2), i);
            Checks.due("sat(" + i + ", 3)", x.sat(i, 3), i + 1);
        }
        for (int i = 0; i < 8; i++) {
            Checks.due("point(" + i + ", 2)", x.point(i, 2), 20 - i);
            Checks.due("point(" + i + ", 5)", x.point(i, 5), 15 - i);
        }
        Checks.due("full behind back()", x.sits(0, 0, 500, 500), Checks.FULL);
    }

    /** What sits in an IMAGE is not what sits there later. */
    private static void imageOfOtherSits() {
        AlwaysThere x = Checks.read(TEXT, 5);
        x.sits(0, 1, 3, 4);
        x.keep(0);
        x.undo();
        x.sits(1, 0, 7, 8);
        x.keep(1);
        int[][] due = {{0, 1, 3, 4}, {1, 0, 7, 8}};
        for (int image = 0; image < 2; image++) {
            Checks.due("back(" + image + ")", x.back(image), 1);
            for (int what = 0; what < 4; what++) {
                Checks.due("sat(0, " + what + ") of image " + image, x.sat(0, what), due[image][what]);
            }
        }
    }

    private static void imagesAreApart() {
        AlwaysThere x = Checks.read(TEXT, 5);
        Checks.due("keep(0)", x.keep(0), 0);
        x.sits(0, 0, 0, 7);
        x.waits(0, 3);
        x.saw(0, 9);
        Checks.due("keep(1)", x.keep(1), 1);
        x.sits(1, 1, 8, 9);
        for (int times = 0; times < 2; times++) {
            Checks.due("back(0)", x.back(0), 0);
            Checks.due("point(0, 2)", x.point(0, 2), 0);
            Checks.due("point(0, 5)", x.point(0, 5), Checks.NONE);
            x.waits(0, 7);
            x.saw(0, 1);
            x.sits(2, 2, 2, 2);
            Checks.due("back(1)", x.back(1), 1);
            Checks.due("point(0, 2)", x.point(0, 2), 3);
            Checks.due("point(0, 5)", x.point(0, 5), 9);
            Checks.due("sat(0, 3)", x.sat(0, 3), 7);
            x.waits(0, 8);
            x.saw(0, 2);
            x.undo();
            x.sits(2, 2, 2, 2);
        }
    }

    private static void keptAgain() {
        AlwaysThere x = Checks.read(TEXT, 5);
        x.sits(0, 0, 0, 7);
        x.sits(0, 0, 1, 8);
        x.keep(0);
        x.undo();
        Checks.due("keep(0) again: fewer", x.keep(0), 1);
        x.undo();
        Checks.due("back(0): the later one counts", x.back(0), 1);
        Twins.unchanged("keep() again of the same", ImagesBoundsTest::keptBoth, y -> y.keep(0), 1);
        Twins.unchanged("keep() again of the same", ImagesBoundsTest::keptBoth, y -> y.keep(1), 1);
    }

    private static long keptBoth(AlwaysThere x) {
        long items = aRace(x);
        x.keep(0);
        x.keep(1);
        return items;
    }

    /** "(nothing can be UNDONE behind back())". */
    private static void nothingIsUndoneBehindBack() {
        AlwaysThere x = Checks.read(TEXT, 5);
        x.sits(0, 0, 0, 7);
        x.waits(0, 3);
        x.keep(0);
        x.waits(0, 4);
        Checks.due("race(4)", x.race(4), 3);
        Checks.due("back(0)", x.back(0), 1);
        Checks.due("race(4) behind back()", x.race(4), 0);
        Checks.due("undo() behind back()", x.undo(), Checks.STATE);
        Checks.due("count(3)", x.count(3), 1);
        Checks.due("point(0, 2)", x.point(0, 2), 3);
        x.waits(0, 9);
        Checks.due("undo() of one behind back()", x.undo(), 0);
        Checks.due("point(0, 2)", x.point(0, 2), 3);
        Checks.due("undo() of one more", x.undo(), Checks.STATE);
        Checks.due("back(0) where it is already", x.back(0), 1);
    }

    private static void keepLeavesWhatCanBeUndone() {
        AlwaysThere x = Checks.read(TEXT, 5);
        x.sits(0, 0, 0, 7);
        x.waits(0, 3);
        x.keep(0);
        Checks.due("race(4)", x.race(4), 2);
        Checks.due("undo()", x.undo(), 1);
        Checks.due("undo()", x.undo(), 0);
        Checks.due("count(3)", x.count(3), 0);
        Checks.due("back(0): the image has it still", x.back(0), 1);
        Checks.due("point(0, 2)", x.point(0, 2), 3);
    }

    /** "IMAGES 0, 1 keep NOW (SITS, how long he WAITS where, what was SEEN); nothing else". */
    private static void backBringsNothingElse() {
        AlwaysThere x = Checks.read(TEXT, 5);
        x.keep(0);
        x.sits(0, 0, 0, 7);
        x.keep(1);
        Checks.tell(x, "h1");
        x.rate(0, 0);
        Checks.due("back(0)", x.back(0), 0);
        Checks.due("the text is not as it was", x.count(4), 2);
        Checks.due("the trace is not as it was", x.trace(), 1);
        Checks.due("the other image is not gone", x.back(1), 1);
        Twins.alike("as if it had never been", y -> {
            Checks.tell(y, TEXT);
            y.furrows();
            return y.keep(0);
        }, y -> {
            Checks.tell(y, TEXT);
            y.furrows();
            y.keep(0);
            y.sits(0, 0, 0, 7);
            y.sits(1, 1, 0, 7);
            y.waits(0, 3);
            y.waits(2, 20);
            y.saw(2, 4);
            return y.back(0);
        });
    }

    /** "(Read anew: ... IMAGES are gone ...)". */
    private static void imagesAreGoneWhenReadAnew() {
        AlwaysThere x = new AlwaysThere();
        keptBoth(x);
        Checks.tell(x, TEXT + "x");
        Checks.due("furrows() with a fault", x.furrows(), -10 - TEXT.length());
        Checks.due("back(1): not gone", x.back(1), 1);
        x.clear();
        Checks.tell(x, TEXT);
        Checks.due("furrows()", x.furrows(), 5);
        Checks.due("back(0)", x.back(0), Checks.STATE);
        Checks.due("back(1)", x.back(1), Checks.STATE);
        Checks.due("keep(0)", x.keep(0), 0);
        Checks.due("back(1)", x.back(1), Checks.STATE);
        Checks.due("back(0)", x.back(0), 0);
    }

    /** What one object is told is nothing to another one. */
    private static void objectsShareNothing() {
        Twins.alike("another object", ImagesBoundsTest::aRace, x -> {
            long items = aRace(x);
            AlwaysThere other = Checks.read("n8;f0 7 9;v0 7;h15;h1;s9;t3;r9;c0 7 0;", 9);
            other.sits(0, 7, 3, 4);
            other.waits(0, 20);
            other.saw(0, 1);
            other.keep(0);
            other.keep(1);
            other.rate(4, 0);
            Checks.tell(other, "h1;h1;");
            other.undo();
            return items;
        });
    }
}
