import java.util.Random;

/** Runs of calls, made from fixed seeds, on the class and on the plain model: both must answer alike. */
public final class AgainstModelTest {
    private static final int RUNS = 1500;
    private static final int CALLS = 512;
    private static final String LETTERS = "nfvhstrc; 0123456789x";

    private final Random random;
    private final AlwaysThere x = new AlwaysThere();
    private final PlainModel model = new PlainModel();
    private int calls = 0;
    private int points = 0;
    private String textsTold = "";

    private AgainstModelTest(int seed) {
        random = new Random(seed);
    }

    public static void main(String[] args) {
        for (int seed = 0; seed < RUNS; seed++) {
            new AgainstModelTest(seed).run();
        }
        Checks.end();
    }

    private void run() {
        boolean tellsAtOnce = random.nextInt(4) > 0;
        // A call() may make two of them; what is answered behind the last one is free.
        while (calls + 2 <= CALLS) {
            if (tellsAtOnce && calls == 0 || random.nextInt(60) == 0) {
                tellIfThereIsRoom(random.nextInt(4) == 0 ? spoilt(text()) : text());
            } else {
                call();
            }
        }
    }

    /** A number that is as told most of the time. */
    private int number(int most) {
        int odd = random.nextInt(40);
        return odd == 0 ? -1 : odd == 1 ? most + 1 : odd == 2 ? random.nextInt() : random.nextInt(most + 1);
    }

    private void check(String call, long got, long want) {
        calls++;
        Checks.due(textsTold + " " + call, got, want);
    }

    private void tellIfThereIsRoom(String text) {
        if (calls + text.length() + 2 <= CALLS) {
            tell(text);
        }
    }

    private void tell(String text) {
        check("clear()", x.clear(), model.clear());
        for (int i = 0; i < text.length(); i++) {
            check("type", x.type(text.charAt(i)), model.type(text.charAt(i)));
        }
        check("furrows() of '" + text + "'", x.furrows(), model.furrows());
        textsTold = text;
        points = model.count(2);
    }

    private String text() {
        StringBuilder text = new StringBuilder();
        int places = 4;
        if (random.nextInt(3) > 0) {
            places = 2 + random.nextInt(7);
            text.append('n').append(places).append(';');
        }
        StringBuilder furrows = new StringBuilder();
        int[][] known = new int[places][places];
        for (int f = random.nextInt(places * 2 + 1); f > 0; f--) {
            int a = random.nextInt(places);
            int b = (a + 1 + random.nextInt(places - 1)) % places;
            known[a][b] = 1;
            known[b][a] = 1;
            furrows.append('f').append(a).append(' ').append(b).append(' ').append(1 + random.nextInt(9)).append(';');
        }
        text.append(furrows);
        for (int v = random.nextInt(4); v > 0; v--) {
            int a = random.nextInt(places);
            text.append('v').append(a).append(' ').append((a + 1 + random.nextInt(places - 1)) % places).append(';');
        }
        for (int h = random.nextInt(6); h > 0; h--) {
            text.append('h').append(random.nextInt(3) == 0 ? random.nextInt(16) : random.nextInt(4)).append(';');
        }
        if (random.nextBoolean()) {
            text.append("s ").append(1 + random.nextInt(random.nextBoolean() ? 2 : 9)).append(';');
        }
        if (random.nextBoolean()) {
            text.append('t').append(random.nextInt(4)).append(" ;");
        }
        if (random.nextBoolean()) {
            text.append('r').append(random.nextInt(random.nextBoolean() ? 8 : 100)).append(';');
        }
        return text.append(course(places, known)).toString();
    }

    private String course(int places, int[][] known) {
        if (random.nextInt(8) == 0) {
            return "";
        }
        int at = random.nextInt(places);
        StringBuilder course = new StringBuilder("c").append(at);
        for (int steps = random.nextInt(random.nextInt(10) == 0 ? 8 : 6); steps > 0; steps--) {
            int next = random.nextInt(places);
            for (int tries = 0; tries < places && known[at][next] == 0; tries++) {
                next = (next + 1) % places;
            }
            if (known[at][next] == 0) {
                break;
            }
            at = next;
            course.append(' ').append(at);
        }
        return course.append(';').toString();
    }

    private String spoilt(String text) {
        StringBuilder spoilt = new StringBuilder(text);
        for (int times = 1 + random.nextInt(2); times > 0; times--) {
            int at = random.nextInt(spoilt.length() + 1);
            char letter = LETTERS.charAt(random.nextInt(LETTERS.length()));
            int how = random.nextInt(3);
            if (how == 0 || at == spoilt.length()) {
                spoilt.insert(at, letter);
            } else if (how == 1) {
                spoilt.setCharAt(at, letter);
            } else {
                spoilt.deleteCharAt(at);
            }
        }
        return spoilt.toString();
    }

    private void call() {
        int which = random.nextInt(24);
        if (which < 8) {
            change(which);
        } else if (which < 16) {
            lookAtRace(which);
        } else {
            reckon(which);
        }
    }

    private void change(int which) {
        int a = number(Math.max(0, points - 1));
        int b = number(which == 3 ? 20 : 15);
        int h = number(4);
        int place = number(5);
        switch (which) {
            case 0, 1, 2 -> {
                int from = number(random.nextInt(4) == 0 ? 999 : 60);
                int to = random.nextInt(20) == 0 ? number(999) : from + random.nextInt(8);
                check("sits", x.sits(h, place, from, to), model.sits(h, place, from, to));
            }
            case 3 -> check("waits", x.waits(a, b), model.waits(a, b));
            case 4 -> check("undo()", x.undo(), model.undo());
            case 5 -> {
                int marks = random.nextInt(3) == 0 ? b : random.nextInt(4);
                check("saw", x.saw(a, marks), model.saw(a, marks));
            }
            case 6 -> {
                int image = number(1);
                if (random.nextBoolean()) {
                    check("keep", x.keep(image), model.keep(image));
                } else {
                    check("back", x.back(image), model.back(image));
                }
            }
            default -> {
                if (random.nextInt(4) == 0) {
                    check("forget()", x.forget(), model.forget());
                } else {
                    int kind = number(5);
                    check("rate", x.rate(kind, h), model.rate(kind, h));
                    check("trace()", x.trace(), model.trace());
                }
            }
        }
    }

    private void lookAtRace(int which) {
        int a = number(7);
        int b = number(7);
        switch (which) {
            case 8 -> check("furrow", x.furrow(a, b), model.furrow(a, b));
            case 9 -> check("way", x.way(a, b), model.way(a, b));
            case 10 -> check("sights", x.sights(a), model.sights(a));
            case 11 -> check("hedgehog", x.hedgehog(a), model.hedgehog(a));
            case 12 -> check("point", x.point(a, b), model.point(a, b));
            case 13 -> check("sat", x.sat(a, b), model.sat(a, b));
            case 14 -> check("race", x.race(a), model.race(a));
            default -> check("count", x.count(a), model.count(a));
        }
    }

    private void reckon(int which) {
        int i = number(Math.max(0, points - 1));
        switch (which) {
            case 16 -> check("one()", x.one(), model.one());
            case 17 -> {
                int asked = random.nextInt(3) == 0 ? -1 : i;
                check("needed " + asked, x.needed(asked), model.needed(asked));
            }
            case 18 -> {
                int place = number(4);
                int k = number(random.nextInt(8) == 0 ? 4 : 3);
                int what = number(1);
                check("worst", x.worst(place, k, what), model.worst(place, k, what));
            }
            case 19 -> check("fits()", x.fits(), model.fits());
            case 20, 21 -> check("sure", x.sure(i), model.sure(i));
            case 22 -> {
                int set = number(31);
                check("ask", x.ask(set), model.ask(set));
            }
            default -> {
                int p = number(10);
                int what = number(1);
                check("bet", x.bet(p, what), model.bet(p, what));
            }
        }
    }
}
