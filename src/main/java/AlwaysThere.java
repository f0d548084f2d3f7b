import java.util.Arrays;

/**
 * A hare runs a course, and hedgehogs who look alike sit where he comes in.
 * What each call promises is told in the project's document; words in capitals are its terms.
 */
public final class AlwaysThere {
    public static final int BAD = -1, STATE = -2, FULL = -3, NONE = -9;
    /** What none is, where a number may be below 0. */
    public static final int NO = -1000000;

    private static final int NOT_ONE_ALONE = -5;
    private static final int FAULT_BASE = -10;

    private static final int TEXT_MAX = 200;
    private static final int LETTER_MAX = 255;
    private static final int PLACES_MIN = 2, PLACES_MAX = 8, PLACES_AT_FIRST = 4;
    private static final int LONG_MAX = 9;
    private static final int HEDGEHOGS_MAX = 5;
    private static final int MARK_BITS = 4, MARKS_MAX = 15;
    private static final int SLOW_MAX = 9, SLOW_AT_FIRST = 3;
    private static final int TIRED_MAX = 3;
    private static final int RUBS_MAX = 99;
    private static final int POINTS_MAX = 8;
    private static final int WAIT_MAX = 20;
    private static final int SITS_MAX = 12;
    private static final int MINUTE_MAX = 999;
    private static final int UNDO_MAX = 12;
    private static final int WORST_MAX = 4;
    private static final int BET_WHOLE = 10;
    private static final int IMAGES = 2;

    private static final int WIFE = 1, TWIN = 2, MOTHER = 3, COUSIN = 4, JUDGE = 5;
    private static final int KINDS = 6;
    private static final int[] KIND_ABOVE = {-1, 0, 0, WIFE, TWIN, 0};
    private static final int[] KIND_TRACE = {1, 10, 100, 1000, 10000, 100000};

    private final Reader reader;
    private final Land land;
    private final Now now;
    private final Now firstImage;
    private final Now secondImage;
    private final History history;
    private final Run course;
    private final Worst worstCourse;
    private final Guess guess;
    private long traced;

    public AlwaysThere() {
        reader = new Reader();
        land = new Land();
        now = new Now();
        firstImage = new Now();
        secondImage = new Now();
        history = new History();
        course = new Run();
        worstCourse = new Worst();
        guess = new Guess();
        traced = 0;
    }

    // ---- the furrows

    public int type(int letter) {
        if (letter < 0 || letter > LETTER_MAX) {
            return BAD;
        }
        if (reader.length >= TEXT_MAX) {
            return FULL;
        }
        reader.letters[reader.length] = (char) letter;
        reader.length++;
        return reader.length;
    }

    public int clear() {
        int had = reader.length;
        reader.length = 0;
        return had;
    }

    public int furrows() {
        int items = reader.readAll();
        if (items < 0) {
            return items;
        }
        reader.length = 0;
        land.become(reader.draft);
        now.wipe();
        firstImage.kept = false;
        secondImage.kept = false;
        history.size = 0;
        course.follow(land, now.wait);
        return items;
    }

    public int furrow(int a, int b) {
        if (!land.hasPlace(a) || !land.hasPlace(b)) {
            return BAD;
        }
        return land.furrowBetween(a, b);
    }

    public int way(int a, int b) {
        if (!land.hasPlace(a) || !land.hasPlace(b)) {
            return BAD;
        }
        return land.wayBetween(a, b);
    }

    public int sights(int a) {
        if (!land.hasPlace(a)) {
            return BAD;
        }
        return land.sight[a];
    }

    public int hedgehog(int h) {
        if (!land.hasHedgehog(h)) {
            return BAD;
        }
        return land.marks[h];
    }

    public int point(int i, int what) {
        if (!course.hasPoint(i)) {
            return BAD;
        }
        switch (what) {
            case 0:
                return course.place[i];
            case 1:
                return course.comes[i];
            case 2:
                return now.wait[i];
            case 3:
                return meetingAt(i);
            case 4:
                return inViewAt(i);
            case 5:
                return now.seen[i];
            default:
                return BAD;
        }
    }

    // ---- a race

    public int sits(int h, int place, int from, int to) {
        if (!land.hasHedgehog(h) || !land.hasPlace(place) || from < 0 || to < from || to > MINUTE_MAX) {
            return BAD;
        }
        if (!couldSit(h, place, from, to)) {
            return STATE;
        }
        if (now.sitsCount >= SITS_MAX) {
            return FULL;
        }
        now.addSits(h, place, from, to);
        history.noteSits();
        return now.sitsCount;
    }

    public int waits(int i, int n) {
        if (!course.hasPoint(i) || n < 0 || n > WAIT_MAX) {
            return BAD;
        }
        history.noteWait(i, now.wait[i]);
        now.wait[i] = n;
        course.follow(land, now.wait);
        return course.comesLast();
    }

    public int undo() {
        if (history.size <= 0) {
            return STATE;
        }
        history.takeBack(now);
        course.follow(land, now.wait);
        return history.size;
    }

    public int sat(int i, int what) {
        if (i < 0 || i >= now.sitsCount) {
            return BAD;
        }
        switch (what) {
            case 0:
                return now.sitter[i];
            case 1:
                return now.sitPlace[i];
            case 2:
                return now.sitFrom[i];
            case 3:
                return now.sitTo[i];
            default:
                return BAD;
        }
    }

    public int race(int what) {
        switch (what) {
            case 0:
                return firstEmpty();
            case 1:
                return firstDouble();
            case 2:
                return sittingInVain();
            case 3:
                return course.comesLast();
            case 4:
                return history.size;
            default:
                return BAD;
        }
    }

    // ---- how many are needed

    public int one() {
        return course.canBeDoneBy(1) ? 1 : 0;
    }

    public int needed(int i) {
        if (i == -1) {
            return course.fewest();
        }
        if (!course.hasPoint(i)) {
            return BAD;
        }
        course.fewest();
        return course.who[i];
    }

    public int worst(int place, int k, int what) {
        if (!land.hasPlace(place) || k < 0 || k > WORST_MAX || what < 0 || what > 1) {
            return BAD;
        }
        worstCourse.lookFrom(land, place, k);
        return what == 0 ? worstCourse.most : worstCourse.figures;
    }

    // ---- who it was

    public int saw(int i, int marks) {
        if (!course.hasPoint(i) || marks < 0 || marks > MARKS_MAX) {
            return BAD;
        }
        int ahead = now.seen[i];
        now.seen[i] = marks;
        return ahead;
    }

    public int forget() {
        int known = 0;
        for (int i = 0; i < POINTS_MAX; i++) {
            if (now.seen[i] != NONE) {
                known++;
            }
            now.seen[i] = NONE;
        }
        return known;
    }

    public int fits() {
        guess.prepare(land, course, now.seen);
        return guess.waysInAll();
    }

    public int sure(int i) {
        if (!course.hasPoint(i)) {
            return BAD;
        }
        guess.prepare(land, course, now.seen);
        return guess.alwaysAt(i);
    }

    public int ask(int set) {
        if (set < 0 || set >= 1 << land.hedgehogs) {
            return BAD;
        }
        int best = NONE;
        for (int marks = 0; marks <= MARKS_MAX; marks++) {
            boolean fewer = best == NONE || Integer.bitCount(marks) < Integer.bitCount(best);
            if (fewer && land.areToldApart(set, marks)) {
                best = marks;
            }
        }
        return best;
    }

    public long bet(int p, int what) {
        if (p < 0 || p > BET_WHOLE || what < 0 || what > 1) {
            return BAD;
        }
        if (course.size == 0) {
            return what;
        }
        // Powers of a fraction in least terms are in least terms, so one step's fraction is made small first.
        int shared = greatestShared(BET_WHOLE - p, BET_WHOLE);
        int step = (what == 0 ? BET_WHOLE - p : BET_WHOLE) / shared;
        long chance = 1;
        for (int i = 1; i < course.size; i++) {
            chance *= step;
        }
        return chance;
    }

    // ---- kinds, images

    public int rate(int kind, int h) {
        if (kind < 0 || kind >= KINDS || !land.hasHedgehog(h)) {
            return NO;
        }
        return rateAs(kind, h, 0);
    }

    public int keep(int image) {
        if (image < 0 || image >= IMAGES) {
            return BAD;
        }
        Now then = imageOf(image);
        then.become(now);
        then.kept = true;
        return now.sitsCount;
    }

    public int back(int image) {
        if (image < 0 || image >= IMAGES) {
            return BAD;
        }
        Now then = imageOf(image);
        if (!then.kept) {
            return STATE;
        }
        now.become(then);
        history.size = 0;
        course.follow(land, now.wait);
        return now.sitsCount;
    }

    public int count(int what) {
        switch (what) {
            case 0:
                return land.places;
            case 1:
                return land.hedgehogs;
            case 2:
                return land.points;
            case 3:
                return now.sitsCount;
            case 4:
                return reader.length;
            case 5:
                return land.slow;
            case 6:
                return land.tired;
            case 7:
                return land.rubs;
            default:
                return BAD;
        }
    }

    public long trace() {
        return traced;
    }

    // ---- what the calls share

    private Now imageOf(int image) {
        return image == 0 ? firstImage : secondImage;
    }

    private int meetingAt(int i) {
        return now.sittersAt(1 << course.place[i], course.comes[i]);
    }

    private int inViewAt(int i) {
        int place = course.place[i];
        return now.sittersAt(land.sight[place] | 1 << place, course.comes[i]);
    }

    private int firstEmpty() {
        for (int i = 0; i < course.size; i++) {
            if (meetingAt(i) == 0) {
                return i;
            }
        }
        return NONE;
    }

    private int firstDouble() {
        for (int i = 0; i < course.size; i++) {
            if (Integer.bitCount(inViewAt(i)) >= 2) {
                return i;
            }
        }
        return NONE;
    }

    private int sittingInVain() {
        int idle = now.sittersAnywhere();
        for (int i = 0; i < course.size; i++) {
            idle &= ~meetingAt(i);
        }
        return idle;
    }

    private boolean couldSit(int h, int place, int from, int to) {
        for (int i = 0; i < now.sitsCount; i++) {
            if (now.sitter[i] == h && !now.agrees(i, land.wayBetween(now.sitPlace[i], place), from, to)) {
                return false;
            }
        }
        return true;
    }

    /** The greatest number, 1 at least, by which both can be divided. */
    private static int greatestShared(int part, int whole) {
        for (int divisor = whole; divisor > 1; divisor--) {
            if (part % divisor == 0 && whole % divisor == 0) {
                return divisor;
            }
        }
        return 1;
    }

    private int rateAs(int kind, int h, int depth) {
        if (kind < 0 || kind >= KINDS || depth >= KINDS) {
            return 0;
        }
        traced += KIND_TRACE[kind];
        int up = rateAs(KIND_ABOVE[kind], h, depth + 1);
        switch (kind) {
            case WIFE:
                return up + now.sitsOf(h);
            case TWIN:
                return up - land.othersMarkedAs(h);
            case MOTHER:
                return 2 * up;
            case COUSIN:
                return up + h;
            case JUDGE:
                return up + course.size;
            default:
                return Integer.bitCount(land.marks[h]);
        }
    }

    /** What a text tells: PLACES, FURROWS, SIGHTS, HEDGEHOGS and THE COURSE. */
    private static final class Land {
        /** Above every WAY there can be, and far enough below the int's end to be added to itself. */
        private static final int FAR = 1000000;

        int places;
        int hedgehogs;
        int points;
        int slow;
        int tired;
        int rubs;
        final int[] furrow = new int[PLACES_MAX * PLACES_MAX];
        final int[] way = new int[PLACES_MAX * PLACES_MAX];
        final int[] sight = new int[PLACES_MAX];
        final int[] marks = new int[HEDGEHOGS_MAX];
        final int[] course = new int[POINTS_MAX];

        Land() {
            wipe();
            measureWays();
        }

        void wipe() {
            places = PLACES_AT_FIRST;
            hedgehogs = 0;
            points = 0;
            slow = SLOW_AT_FIRST;
            tired = 0;
            rubs = 0;
            Arrays.fill(furrow, 0);
            Arrays.fill(sight, 0);
        }

        void become(Land other) {
            places = other.places;
            hedgehogs = other.hedgehogs;
            points = other.points;
            slow = other.slow;
            tired = other.tired;
            rubs = other.rubs;
            System.arraycopy(other.furrow, 0, furrow, 0, furrow.length);
            System.arraycopy(other.sight, 0, sight, 0, sight.length);
            System.arraycopy(other.marks, 0, marks, 0, marks.length);
            System.arraycopy(other.course, 0, course, 0, course.length);
            measureWays();
        }

        boolean hasPlace(int a) {
            return a >= 0 && a < places;
        }

        boolean hasHedgehog(int h) {
            return h >= 0 && h < hedgehogs;
        }

        private static int pair(int a, int b) {
            return a * PLACES_MAX + b;
        }

        int furrowBetween(int a, int b) {
            return furrow[pair(a, b)];
        }

        void putFurrow(int a, int b, int length) {
            furrow[pair(a, b)] = length;
            furrow[pair(b, a)] = length;
        }

        void putSight(int a, int b) {
            sight[a] |= 1 << b;
            sight[b] |= 1 << a;
        }

        int wayBetween(int a, int b) {
            int found = way[pair(a, b)];
            return found < FAR ? found : NONE;
        }

        private void measureWays() {
            for (int a = 0; a < places; a++) {
                for (int b = 0; b < places; b++) {
                    int length = furrow[pair(a, b)];
                    way[pair(a, b)] = a == b ? 0 : length > 0 ? slow * length : FAR;
                }
            }
            for (int over = 0; over < places; over++) {
                for (int a = 0; a < places; a++) {
                    for (int b = 0; b < places; b++) {
                        int round = way[pair(a, over)] + way[pair(over, b)];
                        way[pair(a, b)] = Math.min(way[pair(a, b)], round);
                    }
                }
            }
        }

        int othersMarkedAs(int h) {
            int others = 0;
            for (int other = 0; other < hedgehogs; other++) {
                if (other != h && marks[other] == marks[h]) {
                    others++;
                }
            }
            return others;
        }

        /** Whether no two of a set of HEDGEHOGS are alike by these MARKS alone. */
        boolean areToldApart(int set, int asked) {
            int taken = 0;
            for (int h = 0; h < hedgehogs; h++) {
                int look = 1 << (marks[h] & asked);
                boolean inSet = (set >> h & 1) != 0;
                if (inSet && (taken & look) != 0) {
                    return false;
                }
                if (inSet) {
                    taken |= look;
                }
            }
            return true;
        }

        /** Whether MARKS that were SEEN in a minute can have been those of a HEDGEHOG. */
        boolean canHaveBeen(int h, int seen, int minute) {
            if ((seen & ~marks[h]) != 0) {
                return false;
            }
            int missing = marks[h] & ~seen;
            for (int bit = 0; bit < MARK_BITS; bit++) {
                boolean rubbedOff = rubs > 0 && minute >= rubs * (bit + 1);
                if ((missing >> bit & 1) != 0 && !rubbedOff) {
                    return false;
                }
            }
            return true;
        }
    }

    /** THE TEXT, and how it is read: into a draft, so that nothing is changed if there is a FAULT. */
    private static final class Reader {
        /** What TOKENS are that are no letters; a NUMBER n is NUMBER + n. NOT_A_NUMBER: above 99, or with a 0 ahead. */
        private static final int END = 256, NOT_A_NUMBER = 257, NUMBER = 258;
        private static final int BLANK = 32;
        private static final int DIGITS_MAX = 2;

        final char[] letters = new char[TEXT_MAX];
        int length;
        final Land draft = new Land();
        /** THE TEXT's TOKENS, END behind them: letters (others, too, that can stand nowhere), or as above. */
        private final int[] token = new int[TEXT_MAX + 1];
        /** For each TOKEN the place of its first letter. */
        private final int[] place = new int[TEXT_MAX + 1];
        /** Which TOKEN is to be read next. Nothing goes over END. */
        private int next;
        /** The letters (bits) of ITEMS that were told. */
        private int told;

        /**
         * How many ITEMS, or the answer that tells the FAULT.
         * Reading stops at the TOKEN that can't stand there without going over it: so that one's place is the FAULT.
         */
        int readAll() {
            draft.wipe();
            told = 0;
            next = 0;
            split();
            for (int items = 0; items <= TEXT_MAX; items++) {
                if (token[next] == END) {
                    return items;
                }
                if (!readItem(items == 0)) {
                    break;
                }
            }
            return FAULT_BASE - place[next];
        }

        private void split() {
            int tokens = 0;
            for (int at = 0; at < length; at++) {
                if (letters[at] == BLANK) {
                    continue;
                }
                int last = lastOfFigures(at);
                place[tokens] = at;
                token[tokens] = isFigure(at) ? tokenOfFigures(at, last) : letters[at];
                tokens++;
                at = last;
            }
            place[tokens] = length;
            token[tokens] = END;
        }

        private boolean isFigure(int at) {
            return letters[at] >= '0' && letters[at] <= '9';
        }

        /** The last one of the figures that begin there; where none is, that very place. */
        private int lastOfFigures(int first) {
            int behind = first;
            while (behind < length && isFigure(behind)) {
                behind++;
            }
            return Math.max(first, behind - 1);
        }

        private int tokenOfFigures(int first, int last) {
            int units = letters[last] - '0';
            if (first == last) {
                return NUMBER + units;
            }
            boolean tooMany = last - first >= DIGITS_MAX;
            int tens = letters[first] - '0';
            return tooMany || tens == 0 ? NOT_A_NUMBER : NUMBER + 10 * tens + units;
        }

        private boolean readItem(boolean first) {
            int letter = token[next];
            if (!canBegin(letter, first)) {
                return false;
            }
            told |= bitOf(letter);
            next++;
            if (!readBody(letter) || token[next] != ';') {
                return false;
            }
            next++;
            return true;
        }

        private boolean canBegin(int letter, boolean first) {
            switch (letter) {
                case 'n':
                    return first;
                case 'f':
                case 'v':
                    return true;
                case 'h':
                    return draft.hedgehogs < HEDGEHOGS_MAX;
                case 's':
                case 't':
                case 'r':
                case 'c':
                    return (told & bitOf(letter)) == 0;
                default:
                    return false;
            }
        }

        private static int bitOf(int letter) {
            return 1 << (letter - 'a');
        }

        private boolean readBody(int letter) {
            switch (letter) {
                case 'n':
                    draft.places = takeNumber(PLACES_MIN, PLACES_MAX);
                    return draft.places != NONE;
                case 'f':
                    return readFurrow();
                case 'v':
                    return readSight();
                case 'h':
                    return readHedgehog();
                case 's':
                    draft.slow = takeNumber(1, SLOW_MAX);
                    return draft.slow != NONE;
                case 't':
                    draft.tired = takeNumber(0, TIRED_MAX);
                    return draft.tired != NONE;
                case 'r':
                    draft.rubs = takeNumber(0, RUBS_MAX);
                    return draft.rubs != NONE;
                default:
                    return readCourse();
            }
        }

        private boolean readFurrow() {
            int a = takePlace();
            int b = a == NONE ? NONE : takePlaceUnlike(a);
            int howLong = b == NONE ? NONE : takeNumber(1, LONG_MAX);
            if (howLong == NONE) {
                return false;
            }
            draft.putFurrow(a, b, howLong);
            return true;
        }

        private boolean readSight() {
            int a = takePlace();
            int b = a == NONE ? NONE : takePlaceUnlike(a);
            if (b == NONE) {
                return false;
            }
            draft.putSight(a, b);
            return true;
        }

        private boolean readHedgehog() {
            int marks = takeNumber(0, MARKS_MAX);
            if (marks == NONE || draft.hedgehogs >= HEDGEHOGS_MAX) {
                return false;
            }
            draft.marks[draft.hedgehogs] = marks;
            draft.hedgehogs++;
            return true;
        }

        /** A ninth PLACE is left unread, where only the ITEM's end can stand. */
        private boolean readCourse() {
            int place = takePlace();
            for (int i = 0; i < POINTS_MAX && place != NONE; i++) {
                draft.course[i] = place;
                draft.points = i + 1;
                if (token[next] == ';' || draft.points == POINTS_MAX) {
                    return true;
                }
                place = takePlaceBeyondFurrow(place);
            }
            return false;
        }

        private int takePlace() {
            return takeNumber(0, draft.places - 1);
        }

        private int takePlaceUnlike(int a) {
            return token[next] == NUMBER + a ? NONE : takeNumber(0, draft.places - 1);
        }

        private int takePlaceBeyondFurrow(int from) {
            int to = token[next] - NUMBER;
            boolean cutOff = draft.hasPlace(to) && draft.furrowBetween(from, to) == 0;
            return cutOff ? NONE : takeNumber(0, draft.places - 1);
        }

        /** The NUMBER that is next, if it is one and not beyond these; or else NONE, and it stays unread. */
        private int takeNumber(int least, int most) {
            // What is no NUMBER is below 0 here.
            int number = token[next] - NUMBER;
            if (number < 0 || number < least || number > most) {
                return NONE;
            }
            next++;
            return number;
        }
    }

    /** What changes during a race, and what an IMAGE keeps: SITS, how long the HARE WAITS, what was SEEN. */
    private static final class Now {
        /** Asked of an IMAGE alone: whether it is one. */
        boolean kept;
        int sitsCount;
        final int[] sitter = new int[SITS_MAX];
        final int[] sitPlace = new int[SITS_MAX];
        final int[] sitFrom = new int[SITS_MAX];
        final int[] sitTo = new int[SITS_MAX];
        final int[] wait = new int[POINTS_MAX];
        final int[] seen = new int[POINTS_MAX];

        Now() {
            wipe();
        }

        void wipe() {
            sitsCount = 0;
            Arrays.fill(wait, 0);
            Arrays.fill(seen, NONE);
        }

        void become(Now other) {
            sitsCount = other.sitsCount;
            System.arraycopy(other.sitter, 0, sitter, 0, SITS_MAX);
            System.arraycopy(other.sitPlace, 0, sitPlace, 0, SITS_MAX);
            System.arraycopy(other.sitFrom, 0, sitFrom, 0, SITS_MAX);
            System.arraycopy(other.sitTo, 0, sitTo, 0, SITS_MAX);
            System.arraycopy(other.wait, 0, wait, 0, POINTS_MAX);
            System.arraycopy(other.seen, 0, seen, 0, POINTS_MAX);
        }

        void addSits(int h, int place, int from, int to) {
            if (sitsCount >= SITS_MAX) {
                return;
            }
            sitter[sitsCount] = h;
            sitPlace[sitsCount] = place;
            sitFrom[sitsCount] = from;
            sitTo[sitsCount] = to;
            sitsCount++;
        }

        void dropLastSits() {
            if (sitsCount > 0) {
                sitsCount--;
            }
        }

        /** Whether one can do the i-th SITS and another one, to whose PLACE the WAY is as given. */
        boolean agrees(int i, int way, int from, int to) {
            boolean together = from <= sitTo[i] && sitFrom[i] <= to;
            if (together) {
                // No FURROW is 0 long: a WAY of 0 means that it is one and the same PLACE.
                return way == 0;
            }
            int between = from > sitTo[i] ? from - sitTo[i] : sitFrom[i] - to;
            return way != NONE && way <= between;
        }

        int sittersAt(int places, int minute) {
            int sitters = 0;
            for (int i = 0; i < sitsCount; i++) {
                boolean there = (places >> sitPlace[i] & 1) != 0;
                if (there && sitFrom[i] <= minute && minute <= sitTo[i]) {
                    sitters |= 1 << sitter[i];
                }
            }
            return sitters;
        }

        int sittersAnywhere() {
            int sitters = 0;
            for (int i = 0; i < sitsCount; i++) {
                sitters |= 1 << sitter[i];
            }
            return sitters;
        }

        int sitsOf(int h) {
            int his = 0;
            for (int i = 0; i < sitsCount; i++) {
                if (sitter[i] == h) {
                    his++;
                }
            }
            return his;
        }
    }

    /** What can be UNDONE, the latest last. */
    private static final class History {
        private static final int A_SITS = -1;

        int size;
        private final int[] point = new int[UNDO_MAX];
        private final int[] formerWait = new int[UNDO_MAX];

        void noteSits() {
            note(A_SITS, 0);
        }

        void noteWait(int i, int former) {
            note(i, former);
        }

        private void note(int i, int former) {
            if (size >= UNDO_MAX) {
                System.arraycopy(point, 1, point, 0, UNDO_MAX - 1);
                System.arraycopy(formerWait, 1, formerWait, 0, UNDO_MAX - 1);
                size = UNDO_MAX - 1;
            }
            point[size] = i;
            formerWait[size] = former;
            size++;
        }

        void takeBack(Now now) {
            if (size <= 0) {
                return;
            }
            size--;
            int i = point[size];
            if (i == A_SITS) {
                // Every SITS comes in last, and all behind it was undone: it is the last one again.
                now.dropLastSits();
            } else {
                now.wait[i] = formerWait[size];
            }
        }
    }

    /** A run of the HARE, POINT by POINT: THE COURSE, or one that is only thought of. */
    private static final class Run {
        int size;
        final int[] place = new int[POINTS_MAX];
        final int[] comes = new int[POINTS_MAX];
        /** For each POINT the earlier ones (bits) from which a HEDGEHOG can go there in time. */
        final int[] reachedFrom = new int[POINTS_MAX];
        /** For each POINT who is there, behind fewest(). */
        final int[] who = new int[POINTS_MAX];
        private final int[] latestOf = new int[POINTS_MAX];

        boolean hasPoint(int i) {
            return i >= 0 && i < size;
        }

        int comesLast() {
            return size > 0 ? comes[size - 1] : NONE;
        }

        void follow(Land land, int[] wait) {
            size = 0;
            for (int i = 0; i < land.points; i++) {
                stepTo(land, land.course[i], i > 0 ? wait[i - 1] : 0);
            }
        }

        void stepTo(Land land, int next, int waited) {
            if (size >= POINTS_MAX) {
                return;
            }
            int minute = 0;
            if (size > 0) {
                int ranAhead = size - 1;
                int furrow = land.furrowBetween(place[size - 1], next);
                minute = comes[size - 1] + waited + furrow + land.tired * ranAhead;
            }
            int from = 0;
            for (int i = 0; i < size; i++) {
                int way = land.wayBetween(place[i], next);
                if (way != NONE && way <= minute - comes[i]) {
                    from |= 1 << i;
                }
            }
            place[size] = next;
            comes[size] = minute;
            reachedFrom[size] = from;
            size++;
        }

        void stepBack() {
            if (size > 0) {
                size--;
            }
        }

        int fewest() {
            for (int few = 0; few < size; few++) {
                if (canBeDoneBy(few)) {
                    return few;
                }
            }
            canBeDoneBy(size);
            return size;
        }

        boolean canBeDoneBy(int few) {
            return tellFrom(0, 0, few);
        }

        /**
         * Tells who is at the i-th POINT and at all behind it, when so many were used ahead of it.
         * Lesser numbers are tried first, so the first way that is found is the first of all.
         */
        private boolean tellFrom(int i, int used, int few) {
            if (i >= size) {
                return true;
            }
            for (int h = 0; h <= used && h < few && h < POINTS_MAX; h++) {
                boolean isNew = h == used;
                if (!isNew && (reachedFrom[i] >> latestOf[h] & 1) == 0) {
                    continue;
                }
                int former = latestOf[h];
                who[i] = h;
                latestOf[h] = i;
                if (tellFrom(i + 1, isNew ? used + 1 : used, few)) {
                    return true;
                }
                latestOf[h] = former;
            }
            return false;
        }

        int figures() {
            int figures = 0;
            for (int i = 0; i < size; i++) {
                figures = figures * 10 + place[i] + 1;
            }
            return figures;
        }
    }

    /** Looks for the course that needs most. */
    private static final class Worst {
        int most;
        int figures;
        private final Run walk = new Run();

        void lookFrom(Land land, int place, int furrows) {
            most = NONE;
            figures = NONE;
            walk.size = 0;
            walk.stepTo(land, place, 0);
            tryAll(land, furrows);
        }

        /** Lesser PLACES are tried first, so of courses that need as many the least number is found first. */
        private void tryAll(Land land, int left) {
            if (left <= 0) {
                weigh();
                return;
            }
            if (walk.size <= 0) {
                return;
            }
            int from = walk.place[walk.size - 1];
            for (int next = 0; next < land.places; next++) {
                if (land.furrowBetween(from, next) > 0) {
                    walk.stepTo(land, next, 0);
                    tryAll(land, left - 1);
                    walk.stepBack();
                }
            }
        }

        private void weigh() {
            if (most == NONE || !walk.canBeDoneBy(most)) {
                most = walk.fewest();
                figures = walk.figures();
            }
        }
    }

    /** Who it can have been: counts the ways to tell a HEDGEHOG for each POINT. */
    private static final class Guess {
        private static final int SETS = 1 << POINTS_MAX;

        private int hedgehogs;
        private int allPoints;
        /** For each HEDGEHOG the POINTS (bits) at which it can have been him, by what was SEEN. */
        private final int[] possible = new int[HEDGEHOGS_MAX];
        /** For each set of POINTS (bits) whether one HEDGEHOG can be at all of them in time. */
        private final boolean[] inTime = new boolean[SETS];
        /** For each set of POINTS (bits) in how many ways the HEDGEHOGS looked at so far can have been there. */
        private final int[] ways = new int[SETS];

        void prepare(Land land, Run run, int[] seen) {
            hedgehogs = land.hedgehogs;
            allPoints = (1 << run.size) - 1;
            for (int h = 0; h < hedgehogs; h++) {
                possible[h] = 0;
                for (int i = 0; i < run.size; i++) {
                    if (seen[i] == NONE || land.canHaveBeen(h, seen[i], run.comes[i])) {
                        possible[h] |= 1 << i;
                    }
                }
            }
            findSetsInTime(run);
        }

        /**
         * WAYS are the shortest ones: who is in time from each POINT to his next one is so from all his earlier ones.
         * So a set is in time if its last POINT is so from all others, and these, looked at before, are.
         */
        private void findSetsInTime(Run run) {
            inTime[0] = true;
            for (int i = 0; i < run.size; i++) {
                int last = 1 << i;
                for (int others = 0; others < last; others++) {
                    inTime[last | others] = inTime[others] && (others & ~run.reachedFrom[i]) == 0;
                }
            }
        }

        int waysInAll() {
            return waysKeeping(0, 0);
        }

        int alwaysAt(int i) {
            int found = NONE;
            for (int h = 0; h < hedgehogs; h++) {
                if (waysKeeping(1 << i, h) > 0) {
                    if (found != NONE) {
                        return NOT_ONE_ALONE;
                    }
                    found = h;
                }
            }
            return found;
        }

        /** How many ways there are, if a set of POINTS is kept for one HEDGEHOG. */
        private int waysKeeping(int set, int keeper) {
            Arrays.fill(ways, 0);
            ways[0] = 1;
            for (int h = 0; h < hedgehogs; h++) {
                addHedgehog(h == keeper ? possible[h] : possible[h] & ~set);
            }
            return ways[allPoints];
        }

        /** Greater sets come first: the lesser ones, of which they are made, are still without this HEDGEHOG then. */
        private void addHedgehog(int his) {
            for (int set = allPoints; set > 0; set--) {
                int sum = ways[set];
                for (int part = set & his; part > 0; part = (part - 1) & set & his) {
                    if (inTime[part]) {
                        sum += ways[set ^ part];
                    }
                }
                ways[set] = sum;
            }
        }
    }
}
