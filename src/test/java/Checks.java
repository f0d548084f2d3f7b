/** What the tests share: they tell texts, compare answers and end with exit code 1 if one was wrong. */
final class Checks {
    static final int BAD = AlwaysThere.BAD, STATE = AlwaysThere.STATE, FULL = AlwaysThere.FULL;
    static final int NONE = AlwaysThere.NONE, NO = AlwaysThere.NO;
    private static int made = 0;
    private static int wrong = 0;

    private Checks() {
    }

    static void due(String call, long got, long want) {
        made++;
        if (got != want) {
            wrong++;
            System.out.println(call + " answered " + got + ", due is " + want);
        }
    }

    static void holds(String what, boolean so) {
        due(what, so ? 1 : 0, 1);
    }

    static void tell(AlwaysThere x, String text) {
        for (int i = 0; i < text.length(); i++) {
            x.type(text.charAt(i));
        }
    }

    /** A new object that has read a text. */
    static AlwaysThere read(String text, int items) {
        AlwaysThere x = new AlwaysThere();
        tell(x, text);
        due("furrows() of " + text, x.furrows(), items);
        return x;
    }

    /** A text that can't be read: the answer tells the place, and the text stays. */
    static void fault(String text, int place) {
        AlwaysThere x = new AlwaysThere();
        tell(x, text);
        due("furrows() of '" + text + "'", x.furrows(), -10 - place);
        due("the text stays: '" + text + "'", x.count(4), text.length());
    }

    static void end() {
        System.out.println(made + " answers, " + wrong + " of them not as due");
        if (wrong != 0) {
            System.exit(1);
        }
    }
}
