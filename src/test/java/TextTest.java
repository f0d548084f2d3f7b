/** Promises 1 to 4: a new object, type, clear, furrows; the text's grammar. */
public final class TextTest {
    public static void main(String[] args) {
        newObject();
        typing();
        items();
        faults();
        endsTooEarly();
        faultChangesNothing();
        readAnew();
        Checks.end();
    }

    private static void newObject() {
        AlwaysThere x = new AlwaysThere();
        int[] counts = {4, 0, 0, 0, 0, 3, 0, 0};
        for (int what = 0; what < counts.length; what++) {
            Checks.due("new: count(" + what + ")", x.count(what), counts[what]);
        }
        for (int a = 0; a < 4; a++) {
            Checks.due("new: sights", x.sights(a), 0);
            for (int b = 0; b < 4; b++) {
                Checks.due("new: furrow", x.furrow(a, b), 0);
                Checks.due("new: way", x.way(a, b), a == b ? 0 : Checks.NONE);
            }
        }
        Checks.due("new: sights(4)", x.sights(4), Checks.BAD);
        Checks.due("new: hedgehog(0)", x.hedgehog(0), Checks.BAD);
        Checks.due("new: point(0, 0)", x.point(0, 0), Checks.BAD);
        Checks.due("new: undo()", x.undo(), Checks.STATE);
        Checks.due("new: back(0)", x.back(0), Checks.STATE);
        Checks.due("new: trace()", x.trace(), 0);
    }

    private static void typing() {
        AlwaysThere x = new AlwaysThere();
        Checks.due("type(-1)", x.type(-1), Checks.BAD);
        Checks.due("type(256)", x.type(256), Checks.BAD);
        Checks.due("type(0)", x.type(0), 1);
        Checks.due("type(255)", x.type(255), 2);
        Checks.due("clear()", x.clear(), 2);
        Checks.due("clear() again", x.clear(), 0);
        for (int i = 1; i <= 200; i++) {
            Checks.due("type(32)", x.type(32), i);
        }
        Checks.due("type(32) of a full text", x.type(32), Checks.FULL);
        Checks.due("type(256) of a full text", x.type(256), Checks.BAD);
        Checks.due("count(4)", x.count(4), 200);
        Checks.due("furrows() of blanks", x.furrows(), 0);
        Checks.due("count(4)", x.count(4), 0);
    }

    private static void items() {
        Checks.read("", 0);
        Checks.read("n2;", 1);
        Checks.read("n8;f7 0 9;c7 0 7;", 3);
        Checks.read("  n  3 ; f 0 1 9 ;v 2 0;h 0;s9;t3;r99;c 0 1 0  ; ", 8);
        Checks.read("h0;h15;h1;h1;h2;", 5);
        Checks.read("s1;f0 1 1;t0;v0 1;r0;v0 1;c3;", 7);
        Checks.read("f0 1 1;f1 0 9;f0 1 4;", 3);
        AlwaysThere told = Checks.read("n5;f0 4 7;v1 3;h9;s2;t1;r50;c4 0 4;", 8);
        int[] counts = {5, 1, 3, 0, 0, 2, 1, 50};
        for (int what = 0; what < counts.length; what++) {
            Checks.due("count(" + what + ")", told.count(what), counts[what]);
        }
        AlwaysThere later = Checks.read("f0 1 2;c0 1 0;f1 0 5;", 3);
        Checks.due("a furrow told again behind c", later.race(3), 10);
    }

    private static void faults() {
        Checks.fault("n1;", 1);
        Checks.fault("n9;", 1);
        Checks.fault("n;", 1);
        Checks.fault("n2;n2;", 3);
        Checks.fault("h1;n2;", 3);
        Checks.fault("; ", 0);
        Checks.fault("h1;;", 3);
        Checks.fault(" 3;", 1);
        Checks.fault("n2;f0 2 1;", 6);
        Checks.fault("f4 0 1;", 1);
        Checks.fault("f0 0 1;", 3);
        Checks.fault("f0 1 0;", 5);
        Checks.fault("f0 1 10;", 5);
        Checks.fault("f0 1;", 4);
        Checks.fault("f0 1 1 1;", 7);
        Checks.fault("f01 2 3;", 1);
        Checks.fault("f0 00 3;", 3);
        Checks.fault("v0 0;", 3);
        Checks.fault("v0 4;", 3);
        Checks.fault("v0 1 2;", 5);
        Checks.fault("h16;", 1);
        Checks.fault("h100;", 1);
        Checks.fault("h0000000000000000001;", 1);
        Checks.fault("h99999999999999999999;", 1);
        Checks.fault("h1;h1;h1;h1;h1;h1;", 15);
        Checks.fault("s0;", 1);
        Checks.fault("s10;", 1);
        Checks.fault("s1;s1;", 3);
        Checks.fault("t4;", 1);
        Checks.fault("t0;t0;", 3);
        Checks.fault("r100;", 1);
        Checks.fault("r1;r1;", 3);
        Checks.fault("c;", 1);
        Checks.fault("c4;", 1);
        Checks.fault("c0 1;f0 1 1;", 3);
        Checks.fault("c0 0;", 3);
        Checks.fault("c0;c0;", 3);
        Checks.fault("f0 1 1;c0 1 4;", 12);
        Checks.fault("f0 1 1;c0 1 0 1 0 1 0 1 0;", 24);
        Checks.fault("f0 1 1;c0 1 0 1 0 1 0 1 9;", 24);
        Checks.fault("f0 1 1;c0 1 h1;", 12);
        Checks.fault("x", 0);
        Checks.fault("h1;  x", 5);
        Checks.fault("h1 h", 3);
        Checks.fault("H1;", 0);
        Checks.fault("h1,", 2);
        Checks.fault("h-1;", 1);
        Checks.fault("h1;" + (char) 9, 3);
        Checks.fault("h1;" + (char) 0, 3);
        Checks.fault("h1;" + (char) 233, 3);
        Checks.fault("n3f0 1 1;", 2);
    }

    private static void endsTooEarly() {
        Checks.fault("n", 1);
        Checks.fault("n2", 2);
        Checks.fault("f0 1 1", 6);
        Checks.fault("f0 ", 3);
        Checks.fault("c", 1);
        Checks.fault("c0", 2);
        Checks.fault("h1;h1   ", 8);
        Checks.fault("h15", 3);
    }

    private static void faultChangesNothing() {
        AlwaysThere x = Checks.read("n3;f0 1 2;h3;s4;t1;r7;c0 1;", 7);
        x.sits(0, 0, 0, 5);
        x.saw(0, 3);
        x.keep(0);
        Checks.tell(x, "n2;f0 1 9;h1;h1;s1;t2;r1;c0 1 0;x");
        Checks.due("furrows()", x.furrows(), -42);
        Checks.due("the text stays", x.count(4), 33);
        int[] counts = {3, 1, 2, 1, 33, 4, 1, 7};
        for (int what = 0; what < counts.length; what++) {
            Checks.due("count(" + what + ")", x.count(what), counts[what]);
        }
        Checks.due("furrow(0, 1)", x.furrow(0, 1), 2);
        Checks.due("way(0, 1)", x.way(0, 1), 8);
        Checks.due("race(4)", x.race(4), 1);
        Checks.due("point(0, 5)", x.point(0, 5), 3);
        Checks.due("back(0)", x.back(0), 1);
        Checks.due("clear()", x.clear(), 33);
    }

    private static void readAnew() {
        AlwaysThere x = Checks.read("n8;f0 1 2;v0 1;h3;s4;t1;r7;c0 1;", 8);
        x.sits(0, 0, 0, 5);
        x.waits(0, 7);
        x.saw(0, 3);
        x.keep(0);
        x.keep(1);
        x.rate(5, 0);
        Checks.tell(x, "f2 3 1;h1;c2 3;");
        Checks.due("furrows()", x.furrows(), 3);
        int[] counts = {4, 1, 2, 0, 0, 3, 0, 0};
        for (int what = 0; what < counts.length; what++) {
            Checks.due("count(" + what + ")", x.count(what), counts[what]);
        }
        Checks.due("furrow(0, 1)", x.furrow(0, 1), 0);
        Checks.due("sights(0)", x.sights(0), 0);
        Checks.due("way(0, 1)", x.way(0, 1), Checks.NONE);
        Checks.due("hedgehog(0)", x.hedgehog(0), 1);
        Checks.due("point(0, 2)", x.point(0, 2), 0);
        Checks.due("point(0, 5)", x.point(0, 5), Checks.NONE);
        Checks.due("undo()", x.undo(), Checks.STATE);
        Checks.due("back(0)", x.back(0), Checks.STATE);
        Checks.due("back(1)", x.back(1), Checks.STATE);
        Checks.due("trace()", x.trace(), 100001);
        Checks.due("furrows() of nothing", x.furrows(), 0);
        Checks.due("count(2)", x.count(2), 0);
        Checks.due("count(1)", x.count(1), 0);
    }
}
