/** Promises 5 to 8 and 27: furrow, way, sights, hedgehog, count. */
public final class LandTest {
    public static void main(String[] args) {
        furrows();
        ways();
        sightsAndHedgehogs();
        counts();
        Checks.end();
    }

    private static void furrows() {
        AlwaysThere x = Checks.read("n3;f0 1 4;f1 0 9;f2 1 1;", 4);
        Checks.due("furrow(0, 1)", x.furrow(0, 1), 9);
        Checks.due("furrow(1, 0)", x.furrow(1, 0), 9);
        Checks.due("furrow(1, 2)", x.furrow(1, 2), 1);
        Checks.due("furrow(0, 2)", x.furrow(0, 2), 0);
        Checks.due("furrow(2, 2)", x.furrow(2, 2), 0);
        Checks.due("furrow(3, 0)", x.furrow(3, 0), Checks.BAD);
        Checks.due("furrow(0, 3)", x.furrow(0, 3), Checks.BAD);
        Checks.due("furrow(-1, 0)", x.furrow(-1, 0), Checks.BAD);
        Checks.due("furrow(0, least)", x.furrow(0, Integer.MIN_VALUE), Checks.BAD);
        Checks.due("furrow(most, most)", x.furrow(Integer.MAX_VALUE, Integer.MAX_VALUE), Checks.BAD);
    }

    private static void ways() {
        AlwaysThere x = Checks.read("n5;f0 1 9;f0 2 2;f2 3 2;f3 1 2;s2;", 6);
        Checks.due("way(0, 1) by three furrows", x.way(0, 1), 12);
        Checks.due("way(1, 0)", x.way(1, 0), 12);
        Checks.due("way(0, 3)", x.way(0, 3), 8);
        Checks.due("way(4, 4)", x.way(4, 4), 0);
        Checks.due("way(0, 4)", x.way(0, 4), Checks.NONE);
        Checks.due("way(4, 0)", x.way(4, 0), Checks.NONE);
        Checks.due("way(5, 0)", x.way(5, 0), Checks.BAD);
        Checks.due("way(0, -1)", x.way(0, -1), Checks.BAD);
        AlwaysThere star = Checks.read("n3;f0 1 1;f0 2 1;f1 2 9;s1;", 5);
        Checks.due("way(1, 2) over place 0", star.way(1, 2), 2);
        AlwaysThere far = Checks.read("n8;f0 1 9;f1 2 9;f2 3 9;f3 4 9;f4 5 9;f5 6 9;f6 7 9;s9;", 9);
        Checks.due("the farthest way", far.way(0, 7), 567);
        AlwaysThere back = Checks.read("n8;f7 6 1;f6 5 1;f5 4 1;f4 3 1;f3 2 1;f2 1 1;f1 0 1;f0 7 9;s1;", 10);
        Checks.due("way(0, 7)", back.way(0, 7), 7);
    }

    private static void sightsAndHedgehogs() {
        AlwaysThere x = Checks.read("n8;v0 7;v7 3;v7 3;h15;h0;", 6);
        Checks.due("sights(7)", x.sights(7), 9);
        Checks.due("sights(0)", x.sights(0), 128);
        Checks.due("sights(3)", x.sights(3), 128);
        Checks.due("sights(1)", x.sights(1), 0);
        Checks.due("sights(8)", x.sights(8), Checks.BAD);
        Checks.due("sights(-1)", x.sights(-1), Checks.BAD);
        Checks.due("hedgehog(0)", x.hedgehog(0), 15);
        Checks.due("hedgehog(1)", x.hedgehog(1), 0);
        Checks.due("hedgehog(2)", x.hedgehog(2), Checks.BAD);
        Checks.due("hedgehog(-1)", x.hedgehog(-1), Checks.BAD);
    }

    private static void counts() {
        AlwaysThere x = Checks.read("n6;f4 5 1;h1;h1;s8;t2;r98;c4 5 4;", 8);
        x.sits(1, 0, 3, 4);
        Checks.tell(x, "abcd");
        int[] counts = {6, 2, 3, 1, 4, 8, 2, 98};
        for (int what = 0; what < counts.length; what++) {
            Checks.due("count(" + what + ")", x.count(what), counts[what]);
        }
        Checks.due("count(8)", x.count(8), Checks.BAD);
        Checks.due("count(-1)", x.count(-1), Checks.BAD);
    }
}
