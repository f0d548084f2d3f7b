import java.math.BigInteger;
import java.util.ArrayList;
import java.util.Arrays;
import java.util.HashSet;
import java.util.LinkedList;
import java.util.List;
import java.util.Set;
import java.util.TreeMap;

/** The document once more, by trying everything: slow, by the whole Java library, sharing no code with the class. */
final class PlainModel {
    private static final int BAD = -1, STATE = -2, FULL = -3, NONE = -9, NO = -1000000;

    private record Sits(int h, int place, int from, int to) {
    }

    private record State(List<Sits> sits, List<Integer> waits, TreeMap<Integer, Integer> seen) {
        State copy() {
            return new State(new ArrayList<>(sits), new ArrayList<>(waits), new TreeMap<>(seen));
        }
    }

    private record Token(int place, String text) {
    }

    private static final class Fault extends RuntimeException {
        private static final long serialVersionUID = 1L;
        final int place;

        Fault(int place) {
            this.place = place;
        }
    }

    private static final class Told {
        int places = 4;
        int slow = 3;
        int tired = 0;
        int rubs = 0;
        int items = 0;
        final int[][] furrow = new int[8][8];
        final boolean[][] sight = new boolean[8][8];
        final List<Integer> marks = new ArrayList<>();
        final List<Integer> course = new ArrayList<>();
    }

    private String text = "";
    private Told told = new Told();
    private State now = new State(new ArrayList<>(), new ArrayList<>(), new TreeMap<>());
    private final State[] images = new State[2];
    private final LinkedList<State> past = new LinkedList<>();
    private long trace = 0;

    // ---- the text

    int type(int letter) {
        if (letter < 0 || letter > 255) {
            return BAD;
        }
        if (text.length() == 200) {
            return FULL;
        }
        text += (char) letter;
        return text.length();
    }

    int clear() {
        int had = text.length();
        text = "";
        return had;
    }

    int furrows() {
        Told anew;
        try {
            anew = parse(tokens(text), text.length());
        } catch (Fault fault) {
            return -10 - fault.place;
        }
        told = anew;
        text = "";
        now = new State(new ArrayList<>(), new ArrayList<>(), new TreeMap<>());
        for (int i = 0; i < told.course.size(); i++) {
            now.waits.add(0);
        }
        images[0] = null;
        images[1] = null;
        past.clear();
        return told.items;
    }

    private static List<Token> tokens(String text) {
        List<Token> all = new ArrayList<>();
        int at = 0;
        while (at < text.length()) {
            int end = at + 1;
            if (text.charAt(at) >= '0' && text.charAt(at) <= '9') {
                while (end < text.length() && text.charAt(end) >= '0' && text.charAt(end) <= '9') {
                    end++;
                }
            }
            if (text.charAt(at) != ' ') {
                all.add(new Token(at, text.substring(at, end)));
            }
            at = end;
        }
        return all;
    }

    private static Told parse(List<Token> tokens, int length) {
        Told t = new Told();
        LinkedList<Token> left = new LinkedList<>(tokens);
        Set<String> once = new HashSet<>();
        while (!left.isEmpty()) {
            Token head = left.removeFirst();
            boolean again = "strc".contains(head.text) && !once.add(head.text);
            boolean lateN = head.text.equals("n") && t.items > 0;
            boolean sixth = head.text.equals("h") && t.marks.size() == 5;
            if (!"nfvhstrc".contains(head.text) || again || lateN || sixth) {
                throw new Fault(head.place);
            }
            switch (head.text) {
                case "n" -> t.places = number(left, length, 2, 8, -1);
                case "f" -> {
                    int a = number(left, length, 0, t.places - 1, -1);
                    int b = number(left, length, 0, t.places - 1, a);
                    t.furrow[a][b] = number(left, length, 1, 9, -1);
                    t.furrow[b][a] = t.furrow[a][b];
                }
                case "v" -> {
                    int a = number(left, length, 0, t.places - 1, -1);
                    int b = number(left, length, 0, t.places - 1, a);
                    t.sight[a][b] = true;
                    t.sight[b][a] = true;
                }
                case "h" -> t.marks.add(number(left, length, 0, 15, -1));
                case "s" -> t.slow = number(left, length, 1, 9, -1);
                case "t" -> t.tired = number(left, length, 0, 3, -1);
                case "r" -> t.rubs = number(left, length, 0, 99, -1);
                default -> parseCourse(t, left, length);
            }
            if (left.isEmpty()) {
                throw new Fault(length);
            }
            Token end = left.removeFirst();
            if (!end.text.equals(";")) {
                throw new Fault(end.place);
            }
            t.items++;
        }
        return t;
    }

    private static void parseCourse(Told t, LinkedList<Token> left, int length) {
        do {
            int place = left.isEmpty() ? length : left.getFirst().place;
            int next = number(left, length, 0, t.places - 1, -1);
            boolean cut = !t.course.isEmpty() && t.furrow[t.course.get(t.course.size() - 1)][next] == 0;
            if (cut || t.course.size() == 8) {
                throw new Fault(place);
            }
            t.course.add(next);
        } while (left.isEmpty() || !left.getFirst().text.equals(";"));
    }

    private static int number(LinkedList<Token> left, int length, int least, int most, int but) {
        if (left.isEmpty()) {
            throw new Fault(length);
        }
        Token token = left.removeFirst();
        if (!token.text.matches("0|[1-9][0-9]?")) {
            throw new Fault(token.place);
        }
        int value = Integer.parseInt(token.text);
        if (value < least || value > most || value == but) {
            throw new Fault(token.place);
        }
        return value;
    }

    // ---- the furrows

    private boolean isPlace(int a) {
        return a >= 0 && a < told.places;
    }

    private boolean isHedgehog(int h) {
        return h >= 0 && h < told.marks.size();
    }

    private boolean isPoint(int i) {
        return i >= 0 && i < told.course.size();
    }

    int furrow(int a, int b) {
        return isPlace(a) && isPlace(b) ? told.furrow[a][b] : BAD;
    }

    int way(int a, int b) {
        if (!isPlace(a) || !isPlace(b)) {
            return BAD;
        }
        int[] far = new int[8];
        Arrays.fill(far, 1000);
        far[a] = 0;
        for (int round = 0; round < 8; round++) {
            for (int from = 0; from < 8; from++) {
                for (int to = 0; to < 8; to++) {
                    if (told.furrow[from][to] > 0) {
                        far[to] = Math.min(far[to], far[from] + told.furrow[from][to]);
                    }
                }
            }
        }
        return far[b] >= 1000 ? NONE : far[b] * told.slow;
    }

    int sights(int a) {
        if (!isPlace(a)) {
            return BAD;
        }
        int bits = 0;
        for (int b = 0; b < 8; b++) {
            bits += told.sight[a][b] ? 1 << b : 0;
        }
        return bits;
    }

    int hedgehog(int h) {
        return isHedgehog(h) ? told.marks.get(h) : BAD;
    }

    private int comes(List<Integer> course, List<Integer> waits, int i) {
        int minute = 0;
        for (int run = 0; run < i; run++) {
            minute += waits.get(run) + told.furrow[course.get(run)][course.get(run + 1)] + run * told.tired;
        }
        return minute;
    }

    private Set<Integer> sitting(int i, boolean sightsToo) {
        Set<Integer> all = new HashSet<>();
        int place = told.course.get(i);
        int minute = comes(told.course, now.waits, i);
        for (Sits s : now.sits) {
            boolean there = s.place == place || sightsToo && told.sight[place][s.place];
            if (there && minute >= s.from && minute <= s.to) {
                all.add(s.h);
            }
        }
        return all;
    }

    private static int bits(Set<Integer> set) {
        int bits = 0;
        for (int one : set) {
            bits += 1 << one;
        }
        return bits;
    }

    int point(int i, int what) {
        if (!isPoint(i) || what < 0 || what > 5) {
            return BAD;
        }
        return switch (what) {
            case 0 -> told.course.get(i);
            case 1 -> comes(told.course, now.waits, i);
            case 2 -> now.waits.get(i);
            case 3 -> bits(sitting(i, false));
            case 4 -> bits(sitting(i, true));
            default -> now.seen.getOrDefault(i, NONE);
        };
    }

    // ---- a race

    private void remember() {
        past.addLast(now.copy());
        if (past.size() > 12) {
            past.removeFirst();
        }
    }

    int sits(int h, int place, int from, int to) {
        if (!isHedgehog(h) || !isPlace(place) || from < 0 || from > 999 || to < 0 || to > 999 || to < from) {
            return BAD;
        }
        for (Sits s : now.sits) {
            if (s.h == h && !both(s, place, from, to)) {
                return STATE;
            }
        }
        if (now.sits.size() == 12) {
            return FULL;
        }
        remember();
        now.sits.add(new Sits(h, place, from, to));
        return now.sits.size();
    }

    private boolean both(Sits s, int place, int from, int to) {
        for (int minute = s.from; minute <= s.to; minute++) {
            if (minute >= from && minute <= to) {
                return s.place == place;
            }
        }
        int way = way(s.place, place);
        return way != NONE && (s.to < from ? s.to + way <= from : to + way <= s.from);
    }

    int waits(int i, int n) {
        if (!isPoint(i) || n < 0 || n > 20) {
            return BAD;
        }
        remember();
        now.waits.set(i, n);
        return race(3);
    }

    int undo() {
        if (past.isEmpty()) {
            return STATE;
        }
        State former = past.removeLast();
        now = new State(former.sits, former.waits, now.seen);
        return past.size();
    }

    int sat(int i, int what) {
        if (i < 0 || i >= now.sits.size() || what < 0 || what > 3) {
            return BAD;
        }
        Sits s = now.sits.get(i);
        return new int[] {s.h, s.place, s.from, s.to}[what];
    }

    int race(int what) {
        int points = told.course.size();
        if (what == 0 || what == 1) {
            for (int i = 0; i < points; i++) {
                if (what == 0 ? sitting(i, false).isEmpty() : sitting(i, true).size() > 1) {
                    return i;
                }
            }
            return NONE;
        }
        if (what == 2) {
            Set<Integer> vain = new HashSet<>();
            now.sits.forEach(s -> vain.add(s.h));
            for (int i = 0; i < points; i++) {
                vain.removeAll(sitting(i, false));
            }
            return bits(vain);
        }
        if (what == 3) {
            return points == 0 ? NONE : comes(told.course, now.waits, points - 1);
        }
        return what == 4 ? past.size() : BAD;
    }

    // ---- how many are needed

    int one() {
        for (int i = 0; i + 1 < told.course.size(); i++) {
            if (!inTime(told.course, now.waits, i, i + 1)) {
                return 0;
            }
        }
        return 1;
    }

    private boolean inTime(List<Integer> course, List<Integer> waits, int i, int j) {
        int way = way(course.get(i), course.get(j));
        return way != NONE && comes(course, waits, i) + way <= comes(course, waits, j);
    }

    /** All ways to number who is at the points, each as one text; the one with fewest, then the first. */
    private String bestWay(List<Integer> course, List<Integer> waits) {
        List<String> ways = new ArrayList<>();
        ways.add("");
        for (int i = 0; i < course.size(); i++) {
            List<String> longer = new ArrayList<>();
            for (String way : ways) {
                int used = (int) way.chars().distinct().count();
                for (int h = 0; h <= used; h++) {
                    int latest = way.lastIndexOf((char) ('0' + h));
                    if (latest < 0 || inTime(course, waits, latest, i)) {
                        longer.add(way + h);
                    }
                }
            }
            ways = longer;
        }
        String best = null;
        for (String way : ways) {
            long used = way.chars().distinct().count();
            long least = best == null ? 99 : best.chars().distinct().count();
            if (used < least || used == least && way.compareTo(best) < 0) {
                best = way;
            }
        }
        return best;
    }

    int needed(int i) {
        if (i < -1 || i >= told.course.size()) {
            return BAD;
        }
        String best = bestWay(told.course, now.waits);
        return i == -1 ? (int) best.chars().distinct().count() : best.charAt(i) - '0';
    }

    int worst(int place, int k, int what) {
        if (!isPlace(place) || k < 0 || k > 4 || what < 0 || what > 1) {
            return BAD;
        }
        int most = NONE;
        int number = NONE;
        int first = (int) Math.pow(10, k);
        for (int figures = (place + 1) * first; figures < (place + 2) * first; figures++) {
            List<Integer> course = new ArrayList<>();
            for (char c : String.valueOf(figures).toCharArray()) {
                course.add(c - '1');
            }
            if (isCourse(course)) {
                int needs = (int) bestWay(course, List.of(0, 0, 0, 0, 0)).chars().distinct().count();
                if (needs > most) {
                    most = needs;
                    number = figures;
                }
            }
        }
        return what == 0 ? most : number;
    }

    private boolean isCourse(List<Integer> course) {
        for (int i = 0; i < course.size(); i++) {
            if (!isPlace(course.get(i)) || i > 0 && told.furrow[course.get(i - 1)][course.get(i)] == 0) {
                return false;
            }
        }
        return true;
    }

    // ---- who it was

    int saw(int i, int marks) {
        if (!isPoint(i) || marks < 0 || marks > 15) {
            return BAD;
        }
        Integer ahead = now.seen.put(i, marks);
        return ahead == null ? NONE : ahead;
    }

    int forget() {
        int known = now.seen.size();
        now.seen.clear();
        return known;
    }

    private boolean canBe(int h, int i) {
        if (!now.seen.containsKey(i)) {
            return true;
        }
        int seen = now.seen.get(i);
        for (int bit = 0; bit < 4; bit++) {
            boolean has = (told.marks.get(h) & 1 << bit) != 0;
            boolean shown = (seen & 1 << bit) != 0;
            boolean rubbed = told.rubs != 0 && comes(told.course, now.waits, i) >= told.rubs * (bit + 1);
            if (shown && !has || has && !shown && !rubbed) {
                return false;
            }
        }
        return true;
    }

    /** How many ways there are; who was where in them is told in where[point][hedgehog]. */
    private int tryWays(int i, int[] latest, int[] chosen, boolean[][] where) {
        int points = told.course.size();
        if (i == points) {
            for (int p = 0; p < points; p++) {
                where[p][chosen[p]] = true;
            }
            return 1;
        }
        int ways = 0;
        for (int h = 0; h < told.marks.size(); h++) {
            if (canBe(h, i) && (latest[h] < 0 || inTime(told.course, now.waits, latest[h], i))) {
                int former = latest[h];
                latest[h] = i;
                chosen[i] = h;
                ways += tryWays(i + 1, latest, chosen, where);
                latest[h] = former;
            }
        }
        return ways;
    }

    private int tryWays(boolean[][] where) {
        return tryWays(0, new int[] {-1, -1, -1, -1, -1}, new int[8], where);
    }

    int fits() {
        return tryWays(new boolean[8][5]);
    }

    int sure(int i) {
        if (!isPoint(i)) {
            return BAD;
        }
        boolean[][] where = new boolean[8][5];
        if (tryWays(where) == 0) {
            return NONE;
        }
        int found = NONE;
        for (int h = 0; h < 5; h++) {
            if (where[i][h]) {
                found = found == NONE ? h : -5;
            }
        }
        return found;
    }

    int ask(int set) {
        if (set < 0 || set >= 1 << told.marks.size()) {
            return BAD;
        }
        for (int many = 0; many <= 4; many++) {
            for (int marks = 0; marks < 16; marks++) {
                Set<Integer> looks = new HashSet<>();
                for (int h = 0; h < told.marks.size(); h++) {
                    if ((set & 1 << h) != 0) {
                        looks.add(told.marks.get(h) & marks);
                    }
                }
                if (Integer.bitCount(marks) == many && looks.size() == Integer.bitCount(set)) {
                    return marks;
                }
            }
        }
        return NONE;
    }

    long bet(int p, int what) {
        if (p < 0 || p > 10 || what < 0 || what > 1) {
            return BAD;
        }
        if (told.course.isEmpty()) {
            return what;
        }
        BigInteger upper = BigInteger.valueOf(10 - p).pow(told.course.size() - 1);
        BigInteger lower = BigInteger.TEN.pow(told.course.size() - 1);
        BigInteger shared = upper.gcd(lower);
        return (what == 0 ? upper : lower).divide(shared).longValueExact();
    }

    // ---- kinds, images

    int rate(int kind, int h) {
        if (kind < 0 || kind > 5 || !isHedgehog(h)) {
            return NO;
        }
        int marks = Integer.bitCount(told.marks.get(h));
        int his = (int) now.sits.stream().filter(s -> s.h == h).count();
        int twins = (int) told.marks.stream().filter(m -> m.equals(told.marks.get(h))).count() - 1;
        trace += new long[] {1, 11, 101, 1011, 10101, 100001}[kind];
        return new int[] {marks, marks + his, marks - twins, 2 * (marks + his), marks - twins + h,
            marks + told.course.size()}[kind];
    }

    int keep(int image) {
        if (image < 0 || image > 1) {
            return BAD;
        }
        images[image] = now.copy();
        return now.sits.size();
    }

    int back(int image) {
        if (image < 0 || image > 1) {
            return BAD;
        }
        if (images[image] == null) {
            return STATE;
        }
        now = images[image].copy();
        past.clear();
        return now.sits.size();
    }

    int count(int what) {
        int[] counts = {told.places, told.marks.size(), told.course.size(), now.sits.size(), text.length(),
            told.slow, told.tired, told.rubs};
        return what < 0 || what > 7 ? BAD : counts[what];
    }

    long trace() {
        return trace;
    }
}
