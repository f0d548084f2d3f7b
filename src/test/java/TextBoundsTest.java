/** Each sentence about THE TEXT that names a bound, with what lies just inside and just outside (promises 1 to 4). */
public final class TextBoundsTest {
    private static final String ALL_ITEMS = "n3;f0 1 2;v1 2;h15;s4;t1;r99;c0 1 0;";

    public static void main(String[] args) {
        lettersAre0To255();
        textHas200LettersAtMost();
        clearEmptiesTheTextAlone();
        furrowsEmptyTheText();
        placesAre2To8();
        placesAre4AtFirst();
        placesEndBelowN();
        furrowsAre1To9Long();
        furrowsToldAgain();
        furrowsToldAgainBehindTheCourse();
        sightsAreOfPairs();
        placesOfAPairAreUnlike();
        hedgehogsAre5AtMost();
        marksAre0To15();
        slowIs1To9();
        tiredIs0To3();
        rubsAre0To99();
        courseHas1To8Places();
        courseGoesByFurrowsToldAheadOfIt();
        blanksAreAnyNumber();
        blanksAreNeededBetweenNumbers();
        itemsMayBeNone();
        itemsAreEachEnded();
        nIsTheFirstOfAll();
        onceEachAtMost();
        anyOtherLetter();
        numbersAbove99OrWithA0Ahead();
        textEndsTooEarly();
        firstFaultCounts();
        faultsOfAFullText();
        faultLeavesTheText();
        readAnewAsAtFirst();
        Checks.end();
    }

    /** "A letter (0 .. 255) comes to THE TEXT: how many it has. BAD". */
    private static void lettersAre0To255() {
        AlwaysThere x = new AlwaysThere();
        Checks.due("type(-1)", x.type(-1), Checks.BAD);
        Checks.due("type(256)", x.type(256), Checks.BAD);
        Checks.due("type(least)", x.type(Integer.MIN_VALUE), Checks.BAD);
        Checks.due("type(most)", x.type(Integer.MAX_VALUE), Checks.BAD);
        Checks.due("count(4)", x.count(4), 0);
        for (int letter = 0; letter <= 255; letter++) {
            AlwaysThere y = new AlwaysThere();
            Checks.due("type(" + letter + ")", y.type(letter), 1);
            Checks.due("count(4)", y.count(4), 1);
        }
        Checks.due("type(65536 + 59) is no ;", x.type(65536 + ';'), Checks.BAD);
        Checks.due("furrows() of nothing", x.furrows(), 0);
    }

    private static AlwaysThere filled(String end) {
        AlwaysThere x = new AlwaysThere();
        Checks.tell(x, " ".repeat(200 - end.length()) + end);
        return x;
    }

    /** "They are a text (200 letters at most)", "FULL". */
    private static void textHas200LettersAtMost() {
        AlwaysThere x = new AlwaysThere();
        Checks.tell(x, " ".repeat(197) + "h1");
        Checks.due("the 200th letter", x.type(';'), 200);
        Checks.due("a 201st letter", x.type('x'), Checks.FULL);
        Checks.due("a 201st letter that is none", x.type(256), Checks.BAD);
        Checks.due("count(4)", x.count(4), 200);
        Checks.due("furrows() of 200 letters", x.furrows(), 1);
        Checks.due("hedgehog(0)", x.hedgehog(0), 1);
        Checks.due("room again behind furrows()", x.type('x'), 1);
        AlwaysThere y = filled("h1;");
        Checks.due("clear() of a full text", y.clear(), 200);
        Checks.due("room again behind clear()", y.type('x'), 1);
    }

    /** "THE TEXT is empty: how many letters it had." */
    private static void clearEmptiesTheTextAlone() {
        Checks.due("clear() of nothing", new AlwaysThere().clear(), 0);
        Twins.unchanged("clear() of nothing", TextBoundsTest::aRace, x -> x.clear(), 0);
        Twins.unchanged("clear()", TextBoundsTest::aRace, x -> {
            Checks.tell(x, "h1;h2;");
            return x.clear();
        }, 6);
    }

    private static long aRace(AlwaysThere x) {
        Checks.tell(x, ALL_ITEMS);
        long items = x.furrows();
        x.sits(0, 1, 2, 3);
        x.waits(1, 4);
        x.saw(1, 5);
        x.keep(1);
        return items;
    }

    /** "THE TEXT tells all anew, and is empty then: how many ITEMS." */
    private static void furrowsEmptyTheText() {
        AlwaysThere x = Checks.read(ALL_ITEMS, 8);
        Checks.due("count(4)", x.count(4), 0);
        Checks.due("clear()", x.clear(), 0);
        Checks.due("furrows() of the empty text", x.furrows(), 0);
        Checks.due("count(0)", x.count(0), 4);
    }

    /** "PLACES 0 .. n - 1 (n 2 .. 8 ...)". */
    private static void placesAre2To8() {
        Checks.fault("n0;", 1);
        Checks.fault("n1;", 1);
        Checks.fault("n9;", 1);
        Checks.fault("n10;", 1);
        Checks.fault("n99;", 1);
        for (int n = 2; n <= 8; n++) {
            AlwaysThere x = Checks.read("n" + n + ";", 1);
            Checks.due("count(0)", x.count(0), n);
            Checks.due("sights(n - 1)", x.sights(n - 1), 0);
            Checks.due("sights(n)", x.sights(n), Checks.BAD);
        }
    }

    /** "4 at first", "four PLACES, nobody". */
    private static void placesAre4AtFirst() {
        AlwaysThere[] all = {new AlwaysThere(), Checks.read("", 0), Checks.read("s3;", 1)};
        for (AlwaysThere x : all) {
            Checks.due("count(0)", x.count(0), 4);
            Checks.due("count(1)", x.count(1), 0);
            Checks.due("count(2)", x.count(2), 0);
            Checks.due("sights(3)", x.sights(3), 0);
            Checks.due("sights(4)", x.sights(4), Checks.BAD);
        }
        Twins.alike("a new object is as one that has read nothing", x -> 0, x -> x.furrows());
    }

    /** "a PLACE that there is not". */
    private static void placesEndBelowN() {
        Checks.read("f3 0 1;f1 3 1;v3 0;v0 3;c3 0 3;", 5);
        Checks.fault("f4 0 1;", 1);
        Checks.fault("f0 4 1;", 3);
        Checks.fault("v4 0;", 1);
        Checks.fault("v0 4;", 3);
        Checks.fault("c4;", 1);
        Checks.fault("f0 3 1;c3 4;", 10);
        Checks.read("n2;f1 0 1;v1 0;c1;", 4);
        Checks.fault("n2;f2 0 1;", 4);
        Checks.fault("n2;f0 2 1;", 6);
        Checks.fault("n2;v2 0;", 4);
        Checks.fault("n2;v0 2;", 6);
        Checks.fault("n2;c2;", 4);
        Checks.read("n8;f7 0 1;v7 0;c7;", 4);
        Checks.fault("n8;f8 0 1;", 4);
        Checks.fault("n8;f0 8 1;", 6);
        Checks.fault("n8;v8 0;", 4);
        Checks.fault("n8;v0 8;", 6);
        Checks.fault("n8;c8;", 4);
    }

    /** "FURROWS between two PLACES each, LONG 1 .. 9". */
    private static void furrowsAre1To9Long() {
        Checks.fault("f0 1 0;", 5);
        for (int howLong = 1; howLong <= 9; howLong++) {
            AlwaysThere x = Checks.read("f0 1 " + howLong + ";", 1);
            Checks.due("furrow(0, 1)", x.furrow(0, 1), howLong);
            Checks.due("furrow(1, 0)", x.furrow(1, 0), howLong);
            Checks.due("furrow(0, 2)", x.furrow(0, 2), 0);
        }
        Checks.fault("f0 1 10;", 5);
        Checks.fault("f;", 1);
        Checks.fault("f0;", 2);
        Checks.fault("f0 1;", 4);
        Checks.fault("f0 1 2 3;", 7);
    }

    /** "told again: the later one counts". */
    private static void furrowsToldAgain() {
        AlwaysThere x = Checks.read("f0 1 9;f0 1 2;f2 1 1;f1 2 8;s1;", 5);
        Checks.due("furrow(0, 1): a shorter one", x.furrow(0, 1), 2);
        Checks.due("furrow(1, 2): a longer one, told from the other end", x.furrow(1, 2), 8);
        Checks.due("furrow(2, 1)", x.furrow(2, 1), 8);
        Checks.due("way(0, 2)", x.way(0, 2), 10);
    }

    /** "the later one counts, behind c for THE COURSE, too". */
    private static void furrowsToldAgainBehindTheCourse() {
        AlwaysThere x = Checks.read("f0 1 9;c0 1 0;f1 0 2;", 3);
        Checks.due("point(1, 1)", x.point(1, 1), 2);
        Checks.due("point(2, 1)", x.point(2, 1), 4);
        Checks.due("furrow(0, 1)", x.furrow(0, 1), 2);
        AlwaysThere between = Checks.read("f0 1 9;f0 1 3;c0 1;f0 1 4;f0 1 5;", 5);
        Checks.due("point(1, 1): the last of all", between.point(1, 1), 5);
    }

    /** "SIGHTS: pairs of PLACES (either sees the other)". */
    private static void sightsAreOfPairs() {
        AlwaysThere x = Checks.read("v1 2;v0 3;v2 3;v1 3;v2 1;", 5);
        int[] due = {8, 12, 10, 7};
        for (int a = 0; a < 4; a++) {
            Checks.due("sights(" + a + ")", x.sights(a), due[a]);
        }
        Checks.fault("v;", 1);
        Checks.fault("v0;", 2);
        Checks.fault("v0 1 2;", 5);
        Checks.due("a sight is no furrow", x.furrow(0, 3), 0);
        Checks.due("a furrow is no sight", Checks.read("f0 1 1;", 1).sights(0), 0);
        AlwaysThere ends = Checks.read("n8;v0 7;", 2);
        Checks.due("sights(0)", ends.sights(0), 128);
        Checks.due("sights(7)", ends.sights(7), 1);
    }

    /** "f A B L (unlike)", "v A B (unlike)", "a B that is A". */
    private static void placesOfAPairAreUnlike() {
        for (int a = 0; a < 4; a++) {
            Checks.fault("f" + a + " " + a + " 1;", 3);
            Checks.fault("v" + a + " " + a + ";", 3);
            Checks.read("f" + a + " " + (3 - a) + " 1;v" + a + " " + (3 - a) + ";", 2);
        }
    }

    /** "HEDGEHOGS 0 .. (5 at most)", "a sixth h". */
    private static void hedgehogsAre5AtMost() {
        StringBuilder text = new StringBuilder();
        for (int many = 0; many <= 5; many++) {
            AlwaysThere x = Checks.read(text.toString(), many);
            Checks.due("count(1)", x.count(1), many);
            if (many > 0) {
                Checks.due("the last one", x.hedgehog(many - 1), many);
            }
            Checks.due("one beyond", x.hedgehog(many), Checks.BAD);
            text.append('h').append(many + 1).append(';');
        }
        Checks.fault(text.toString(), 15);
        Checks.fault("h1;h1;h1;h1;h1; h99;", 16);
        Checks.fault("h1;h1;h1;h1;h1;h", 15);
        Checks.fault("h1;f0 1 1;h1;h1;c0;h1;h1;v0 1;h1;", 30);
    }

    /** "MARKS (0 .. 15, bits)". */
    private static void marksAre0To15() {
        for (int marks = 0; marks <= 15; marks++) {
            Checks.due("hedgehog(0)", Checks.read("h" + marks + ";", 1).hedgehog(0), marks);
        }
        Checks.fault("h16;", 1);
        Checks.fault("h99;", 1);
        Checks.fault("h;", 1);
        Checks.fault("h1 2;", 3);
    }

    private static void numberOnce(char letter, int what, int least, int most) {
        for (int n = least; n <= most; n++) {
            Checks.due("count(" + what + ")", Checks.read(letter + "" + n + ";", 1).count(what), n);
        }
        Checks.fault(letter + ";", 1);
        Checks.fault(letter + "1 1;", 3);
    }

    /** "SLOW (1 .. 9; 3 at first)". */
    private static void slowIs1To9() {
        Checks.fault("s0;", 1);
        numberOnce('s', 5, 1, 9);
        Checks.fault("s10;", 1);
        Checks.due("at first", new AlwaysThere().count(5), 3);
        Checks.due("not told", Checks.read("f0 1 5;", 1).way(0, 1), 15);
    }

    /** "TIRED (0 .. 3; 0 at first)". */
    private static void tiredIs0To3() {
        numberOnce('t', 6, 0, 3);
        Checks.fault("t4;", 1);
        Checks.due("at first", new AlwaysThere().count(6), 0);
        Checks.due("not told", Checks.read("f0 1 5;c0 1 0;", 2).point(2, 1), 10);
    }

    /** "RUBS (0 .. 99; 0 at first)". */
    private static void rubsAre0To99() {
        numberOnce('r', 7, 0, 99);
        Checks.fault("r100;", 1);
        Checks.due("at first", new AlwaysThere().count(7), 0);
    }

    /** "THE COURSE: 1 to 8 PLACES", "none at first", "a ninth one". */
    private static void courseHas1To8Places() {
        Checks.due("none at first", new AlwaysThere().count(2), 0);
        Checks.due("none told", Checks.read("f0 1 1;", 1).count(2), 0);
        Checks.fault("c;", 1);
        StringBuilder course = new StringBuilder("f0 1 1;c0");
        for (int points = 1; points <= 8; points++) {
            AlwaysThere x = Checks.read(course + ";", 2);
            Checks.due("count(2)", x.count(2), points);
            Checks.due("the last point", x.point(points - 1, 0), (points - 1) % 2);
            Checks.due("one beyond", x.point(points, 0), Checks.BAD);
            course.append(' ').append(points % 2);
        }
        Checks.fault(course + ";", 24);
        Checks.fault(course + " 1;", 24);
        Checks.fault("f0 1 1;c0 1 0 1 0 1 0 1 1;", 24);
        Checks.fault("f0 1 1;c0 1 0 1 0 1 0 1 x;", 24);
        Checks.fault("f0 1 1;c0 1 0 1 0 1 0 1", 23);
    }

    /** "each but the first one with a FURROW from the one ahead (told ahead of it)". */
    private static void courseGoesByFurrowsToldAheadOfIt() {
        Checks.read("c3;", 1);
        Checks.read("f1 0 1;c0 1;", 2);
        Checks.fault("c0 1;", 3);
        Checks.fault("c0 1;f0 1 1;", 3);
        Checks.fault("f0 1 1;c0 0;", 10);
        Checks.fault("f0 1 1;c0 1 1;", 12);
        Checks.fault("f0 1 1;f1 2 1;c0 2;", 17);
        Checks.fault("f0 1 1;c0 1 2;f1 2 1;", 12);
        Checks.fault("v0 1;c0 1;", 8);
        AlwaysThere x = Checks.read("f0 1 1;", 1);
        Checks.tell(x, "c0 1;");
        Checks.due("a furrow of an earlier text", x.furrows(), -13);
    }

    /** "blanks (32), any number, ahead of, between, behind TOKENS". */
    private static void blanksAreAnyNumber() {
        String[] tokens = {"n", "3", ";", "f", "0", "1", "2", ";", "v", "1", "2", ";", "h", "15", ";", "s", "4", ";",
            "t", "1", ";", "r", "99", ";", "c", "0", "1", "0", ";"};
        for (int blanks = 1; blanks <= 4; blanks++) {
            String wide = " ".repeat(blanks) + String.join(" ".repeat(blanks), tokens) + " ".repeat(blanks);
            Twins.alike(blanks + " blanks", x -> {
                Checks.tell(x, ALL_ITEMS);
                return x.furrows();
            }, x -> {
                Checks.tell(x, wide);
                return x.furrows();
            });
        }
        Checks.due("ahead", filled("h1;").furrows(), 1);
        AlwaysThere behind = new AlwaysThere();
        Checks.tell(behind, "h1;" + " ".repeat(197));
        Checks.due("behind", behind.furrows(), 1);
        Checks.fault("h1;" + (char) 31, 3);
        Checks.fault("h1;" + (char) 33, 3);
        Checks.fault("h1;" + (char) 160, 3);
        Checks.fault("h" + (char) 9 + "1;", 1);
        Checks.fault("h1;" + (char) 10, 3);
    }

    /** "(needed only between two NUMBERS)". */
    private static void blanksAreNeededBetweenNumbers() {
        Checks.read("n4;f0 1 2;v0 1;h1;s1;t1;r1;c0 1;", 8);
        Checks.fault("v01;", 1);
        Checks.fault("v10;", 1);
        Checks.fault("f0 12;", 3);
        Checks.fault("f0 1 1;c01;", 8);
        Checks.fault("f0 1 1;c10;", 8);
        Checks.fault("h1 5;", 3);
        Checks.fault("r9 9;", 3);
    }

    /** "ITEMS (none, too)". */
    private static void itemsMayBeNone() {
        Checks.read("", 0);
        Checks.read(" ", 0);
        Checks.due("200 blanks", filled("").furrows(), 0);
        Checks.fault(";", 0);
        Checks.fault("  ;", 2);
    }

    /** "each ended by ;". */
    private static void itemsAreEachEnded() {
        String[] items = {"n3", "f0 1 2", "v1 2", "h5", "s4", "t1", "r9", "c0"};
        for (String item : items) {
            Checks.read(item + ";", 1);
            Checks.fault(item, item.length());
            Checks.fault(item + ";;", item.length() + 1);
            Checks.fault(item + "h1;", item.length());
            Checks.fault(item + " f0 1 1;", item.length() + 1);
        }
        Checks.fault("h1;5", 3);
    }

    /** "n N (the first of all, if it is told)", "n behind another ITEM". */
    private static void nIsTheFirstOfAll() {
        Checks.read("  n2;", 1);
        Checks.fault("n2;n2;", 3);
        String[] items = {"f0 1 2;", "v1 2;", "h5;", "s4;", "t1;", "r9;", "c0;"};
        for (String item : items) {
            Checks.fault(item + "n4;", item.length());
            Checks.fault("n4;" + item + "n4;", item.length() + 3);
            Checks.read("n4;" + item, 2);
        }
    }

    /** "s N, t N, r N, c and the PLACES (once each at most)", "what is told again that may not". */
    private static void onceEachAtMost() {
        String[] once = {"s3;", "t0;", "r0;", "c0;"};
        for (String item : once) {
            Checks.fault(item + item, 3);
            Checks.fault(item + " " + item, 4);
            Checks.fault(item + "h1;" + item, 6);
            Checks.fault(item + item.charAt(0), 3);
            for (String other : once) {
                if (!other.equals(item)) {
                    Checks.read(item + other, 2);
                    Checks.fault(other + item + other, 6);
                }
            }
        }
        Checks.read("f0 1 1;f0 1 1;v0 1;v0 1;h1;h1;", 6);
        Checks.fault("n2; n2;", 4);
    }

    /** "FAULT: ... of any other letter ... that TOKEN's" place: every letter where an ITEM, a NUMBER, a ; is due. */
    private static void anyOtherLetter() {
        for (int letter = 0; letter <= 255; letter++) {
            boolean blank = letter == 32;
            boolean digit = letter >= '0' && letter <= '9';
            boolean item = "nfvhstrc".indexOf(letter) >= 0;
            Checks.due("letter " + letter + " alone", readWith("", letter), blank ? 0 : item ? -11 : -10);
            boolean later = item && letter != 'n';
            Checks.due("letter " + letter + " behind an item", readWith("h1;", letter), blank ? 1 : later ? -14 : -13);
            Checks.due("letter " + letter + " for a number", readWith("r", letter), blank || digit ? -12 : -11);
            int forEnd = letter == ';' ? 1 : blank || digit ? -13 : -12;
            Checks.due("letter " + letter + " for an end", readWith("r1", letter), forEnd);
        }
    }

    private static int readWith(String ahead, int letter) {
        AlwaysThere x = new AlwaysThere();
        Checks.tell(x, ahead);
        x.type(letter);
        return x.furrows();
    }

    /** "a NUMBER above 99 or with a 0 ahead of others, that TOKEN's" place. */
    private static void numbersAbove99OrWithA0Ahead() {
        Checks.read("r99;", 1);
        Checks.read("r0;", 1);
        Checks.read("r10;", 1);
        String[] none = {"100", "990", "999", "1000", "4294967296", "4294967297", "00", "01", "09", "000", "010"};
        for (String number : none) {
            Checks.fault("r" + number + ";", 1);
            Checks.fault("r " + number + " ;", 2);
            Checks.fault("r" + number, 1);
            Checks.fault(number, 0);
            Checks.fault("h1;" + number + ";", 3);
            Checks.fault("h1 " + number + ";", 3);
            Checks.fault("f0 " + number + " 1;", 3);
            Checks.fault("f0 1 " + number + ";", 5);
            Checks.fault("f0 1 1;c0 " + number + ";", 10);
        }
        Checks.fault("h1;r" + "9".repeat(190) + ";", 4);
        Checks.fault("h1;r" + "0".repeat(190) + ";", 4);
    }

    /** "the text's length, if it ends too early": every beginning of a text. */
    private static void textEndsTooEarly() {
        int items = 0;
        for (int length = 0; length <= ALL_ITEMS.length(); length++) {
            String begin = ALL_ITEMS.substring(0, length);
            boolean ended = length == 0 || begin.charAt(length - 1) == ';';
            if (ended && length > 0) {
                items++;
            }
            for (int blanks = 0; blanks <= 2; blanks++) {
                String text = begin + " ".repeat(blanks);
                if (ended) {
                    Checks.read(text, items);
                } else {
                    Checks.fault(text, text.length());
                }
            }
        }
    }

    /** "the first TOKEN that can't stand there". */
    private static void firstFaultCounts() {
        Checks.fault("n9;x", 1);
        Checks.fault("x;n9;", 0);
        Checks.fault("n1;f7 7 0;", 1);
        Checks.fault("f0 0 0;", 3);
        Checks.fault("f9 9 0;", 1);
        Checks.fault("h16;h17;", 1);
        Checks.fault("h1;h16;h100;", 4);
        Checks.fault("s1;s0;", 3);
        Checks.fault("s0;s1;", 1);
        Checks.fault("c0 1;x", 3);
        Checks.fault("h1;x;h", 3);
        Checks.fault("h1;h16", 4);
    }

    /** FAULT at the last letters that there can be. */
    private static void faultsOfAFullText() {
        Checks.due("a fault at the last letter", filled("x").furrows(), -209);
        Checks.due("200 letters end too early", filled("h1").furrows(), -210);
        Checks.due("200 letters end in a number", filled("h").furrows(), -210);
        Checks.due("200 letters end in an end too many", filled("h1;;").furrows(), -209);
        Checks.fault(";".repeat(200), 0);
        Checks.fault("h1;" + "7 ".repeat(98), 3);
        Checks.fault("h1;h1;h1;h1;h1;" + "h".repeat(185), 15);
        AlwaysThere x = new AlwaysThere();
        Checks.tell(x, "x" + " ".repeat(199));
        Checks.due("a fault at the first letter", x.furrows(), -10);
    }

    /** "-10 less FAULT: nothing changes (THE TEXT stays, too)". */
    private static void faultLeavesTheText() {
        AlwaysThere x = new AlwaysThere();
        Checks.tell(x, "h1;h2");
        Checks.due("furrows()", x.furrows(), -15);
        Checks.due("furrows() again", x.furrows(), -15);
        Checks.due("count(1)", x.count(1), 0);
        Checks.due("the text goes on", x.type(';'), 6);
        Checks.due("furrows()", x.furrows(), 2);
        Checks.due("hedgehog(1)", x.hedgehog(1), 2);
        String[] texts = {"n2;f0 1 7;v0 1;h3;h4;s9;t3;r5;c0 1 0 1;x", "n9;", "n2", "c0;c0;", "h1;h1;h1;h1;h1;h1;"};
        for (String text : texts) {
            Twins.unchanged("a fault in " + text, y -> {
                long items = aRace(y);
                Checks.tell(y, text);
                return items;
            }, y -> y.furrows() < -9 ? 1 : 0, 1);
        }
    }

    /** "Read anew: as told (what is not told as at first), nothing of these, IMAGES are gone, nothing ... UNDONE". */
    private static void readAnewAsAtFirst() {
        String[] texts = {"", "n2;", "f0 2 2;", "v2 3;", "h2;h1;", "s1;", "t3;", "r1;", "c0;", ALL_ITEMS};
        for (String text : texts) {
            Twins.alike("'" + text + "' read anew", x -> {
                Checks.tell(x, text);
                return x.furrows();
            }, x -> {
                aRace(x);
                x.keep(0);
                Checks.tell(x, text);
                return x.furrows();
            });
        }
    }
}
