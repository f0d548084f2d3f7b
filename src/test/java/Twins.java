import java.util.ArrayList;
import java.util.List;

/**
 * Two objects with one and the same past, but for one call more on the second: do they answer alike from there on?
 * Each look at them is had on objects of its own, so that none of them is used for more than 512 calls.
 */
final class Twins {
    /** A call, or a row of calls, on an object. */
    interface Call {
        long on(AlwaysThere x);
    }

    private interface Look {
        void at(AlwaysThere x, List<Long> answers);
    }

    private static final Look[] LOOKS = {
        Twins::lookAtLand, Twins::lookAtRace, Twins::lookAtReckoning,
        Twins::lookAtUndone, Twins::lookAtImages, Twins::lookAtText};

    private Twins() {
    }

    /** The call answers as is due, and nothing is changed behind it. */
    static void unchanged(String name, Call past, Call more, long due) {
        for (Look look : LOOKS) {
            AlwaysThere second = new AlwaysThere();
            past.on(second);
            Checks.due(name, more.on(second), due);
            compare(name, look, past, second);
        }
    }

    /** Two pasts that come to the same. */
    static void alike(String name, Call past, Call other) {
        for (Look look : LOOKS) {
            AlwaysThere second = new AlwaysThere();
            other.on(second);
            compare(name, look, past, second);
        }
    }

    private static void compare(String name, Look look, Call past, AlwaysThere second) {
        AlwaysThere first = new AlwaysThere();
        past.on(first);
        List<Long> due = new ArrayList<>();
        List<Long> got = new ArrayList<>();
        look.at(first, due);
        look.at(second, got);
        Checks.due(name + ": how many answers behind it", got.size(), due.size());
        for (int i = 0; i < Math.min(got.size(), due.size()); i++) {
            Checks.due(name + ": the " + i + "-th answer behind it", got.get(i), due.get(i));
        }
    }

    private static void lookAtLand(AlwaysThere x, List<Long> answers) {
        for (int a = 0; a < 8; a++) {
            for (int b = 0; b < 8; b++) {
                answers.add((long) x.furrow(a, b));
                answers.add((long) x.way(a, b));
            }
            answers.add((long) x.sights(a));
            answers.add((long) x.hedgehog(a));
            answers.add((long) x.count(a));
        }
    }

    private static void lookAtRace(AlwaysThere x, List<Long> answers) {
        for (int i = 0; i < 8; i++) {
            for (int what = 0; what < 6; what++) {
                answers.add((long) x.point(i, what));
            }
        }
        for (int i = 0; i < 12; i++) {
            for (int what = 0; what < 4; what++) {
                answers.add((long) x.sat(i, what));
            }
        }
        for (int what = 0; what < 5; what++) {
            answers.add((long) x.race(what));
        }
        answers.add(x.trace());
    }

    private static void lookAtReckoning(AlwaysThere x, List<Long> answers) {
        answers.add((long) x.one());
        answers.add((long) x.fits());
        for (int i = -1; i < 8; i++) {
            answers.add((long) x.needed(i));
            answers.add((long) x.sure(i));
            answers.add((long) x.worst(i, 3, 0));
            answers.add((long) x.worst(i, 3, 1));
        }
        for (int set = 0; set < 32; set++) {
            answers.add((long) x.ask(set));
        }
        for (int p = 0; p <= 10; p++) {
            answers.add(x.bet(p, 0));
            answers.add(x.bet(p, 1));
        }
        for (int kind = 0; kind < 6; kind++) {
            answers.add((long) x.rate(kind, 0));
        }
    }

    private static void lookAtUndone(AlwaysThere x, List<Long> answers) {
        for (int times = 0; times < 13; times++) {
            answers.add((long) x.undo());
            answers.add((long) x.count(3));
            for (int i = 0; i < 8; i++) {
                answers.add((long) x.point(i, 1));
                answers.add((long) x.point(i, 2));
            }
        }
    }

    private static void lookAtImages(AlwaysThere x, List<Long> answers) {
        for (int image = 0; image < 2; image++) {
            answers.add((long) x.back(image));
            lookAtRace(x, answers);
        }
    }

    private static void lookAtText(AlwaysThere x, List<Long> answers) {
        answers.add((long) x.furrows());
        lookAtLand(x, answers);
        answers.add((long) x.clear());
        answers.add((long) x.furrows());
        answers.add((long) x.type('h'));
    }
}
