/**
 * Two tropical polynomials in the plane, the curves where at least two of
 * their terms are minimal together, and the stable intersection of the curves.
 */
public final class LeastCurves {
    public static final int NONE = -1000000, UNKNOWN = -1000001, OUTSIDE = -1000002, NOT = -1000003, FULL = -1000004;

    /** Place numbers run from 0 to 20; those of 5 i + j with i + j above 4 never bear a term. */
    private static final int NUMBERS = 21;
    private static final int DEGREE = 4;
    private static final int WIDTH = 5;
    private static final int MOST_C = 999;
    private static final int MOST_BYTES = 200;
    private static final int MOST_CLAUSES = 24;
    private static final int MOST_CHANGES = 8;

    /** Both bounds are exact: 15 places, of which at most 3 lie inside the hull. */
    private static final int MOST_CORNERS = 16;
    private static final int MOST_EDGES = 30;

    /** Two curves of degree 4 have a mixed area of at most 16. */
    private static final int MOST_MEETINGS = 16;

    private final Text text;
    private final Reader reader;
    private final Pair now;
    private final Terms draft;
    private final Past past;
    private final Pair slot0;
    private final Pair slot1;
    private final Shape shape0;
    private final Shape shape1;
    private final Meetings meetings;
    private boolean kept0;
    private boolean kept1;

    public LeastCurves() {
        text = new Text();
        reader = new Reader(text);
        now = new Pair();
        draft = new Terms();
        past = new Past();
        slot0 = new Pair();
        slot1 = new Pair();
        shape0 = new Shape(now.first);
        shape1 = new Shape(now.second);
        meetings = new Meetings(shape0, shape1);
        kept0 = false;
        kept1 = false;
    }

    public int write(int letter) {
        if (letter < 0 || letter > 255) {
            return OUTSIDE;
        }
        return text.append(letter) ? text.length : FULL;
    }

    public int erase() {
        int had = text.length;
        text.length = 0;
        return had;
    }

    public int fault() {
        return reader.read();
    }

    public int curves() {
        if (reader.read() != NONE) {
            return NOT;
        }
        if (reader.names0) {
            now.first.take(reader.result.first);
        }
        if (reader.names1) {
            now.second.take(reader.result.second);
        }
        text.length = 0;
        kept0 = false;
        kept1 = false;
        past.forget();
        return reader.clauses;
    }

    public int term(int curve, int i, int j) {
        if (!isCurve(curve)) {
            return UNKNOWN;
        }
        if (!Places.isPlace(i, j)) {
            return OUTSIDE;
        }
        return now.of(curve).at(WIDTH * i + j);
    }

    public int value(int curve, int x, int y, int d, int what) {
        if (!isCurve(curve)) {
            return UNKNOWN;
        }
        if (!isWithin(x, 9999) || !isWithin(y, 9999) || d < 1 || d > 60 || what < 0 || what > 1) {
            return OUTSIDE;
        }
        Terms terms = now.of(curve);
        if (terms.size() == 0) {
            return NOT;
        }
        return what == 0 ? terms.least(x, y, d) : terms.leading(x, y, d);
    }

    public int put(int curve, int i, int j, int c) {
        if (!isCurve(curve)) {
            return UNKNOWN;
        }
        if (!Places.isPlace(i, j) || !isWithin(c, MOST_C)) {
            return OUTSIDE;
        }
        past.remember(now);
        now.of(curve).set(WIDTH * i + j, c);
        return now.of(curve).size();
    }

    public int drop(int curve, int i, int j) {
        if (!isCurve(curve)) {
            return UNKNOWN;
        }
        if (!Places.isPlace(i, j)) {
            return OUTSIDE;
        }
        int place = WIDTH * i + j;
        if (!now.of(curve).has(place)) {
            return NOT;
        }
        past.remember(now);
        now.of(curve).set(place, NONE);
        return now.of(curve).size();
    }

    public int move(int curve, int dx, int dy) {
        if (!isCurve(curve)) {
            return UNKNOWN;
        }
        if (!isWithin(dx, 99) || !isWithin(dy, 99)) {
            return OUTSIDE;
        }
        Terms terms = now.of(curve);
        int changed = draft.becomeMoved(terms, dx, dy);
        if (!draft.isInRange()) {
            return NOT;
        }
        past.remember(now);
        terms.take(draft);
        return changed;
    }

    public int mirror(int curve) {
        if (!isCurve(curve)) {
            return UNKNOWN;
        }
        Terms terms = now.of(curve);
        int changed = draft.becomeMirrored(terms);
        past.remember(now);
        terms.take(draft);
        return changed;
    }

    public int join(int curve) {
        if (!isCurve(curve)) {
            return UNKNOWN;
        }
        draft.becomeLeast(now.first, now.second);
        past.remember(now);
        now.of(curve).take(draft);
        return draft.size();
    }

    public int times(int curve) {
        if (!isCurve(curve)) {
            return UNKNOWN;
        }
        if (now.first.size() == 0 || now.second.size() == 0) {
            return NOT;
        }
        if (!draft.becomeProduct(now.first, now.second) || !draft.isInRange()) {
            return NOT;
        }
        past.remember(now);
        now.of(curve).take(draft);
        return draft.size();
    }

    public int undo() {
        if (past.size == 0) {
            return NOT;
        }
        past.recall(now);
        return past.size;
    }

    public int keep(int k) {
        if (k != 0 && k != 1) {
            return OUTSIDE;
        }
        if (k == 0) {
            slot0.take(now);
            kept0 = true;
        } else {
            slot1.take(now);
            kept1 = true;
        }
        return now.size();
    }

    public int back(int k) {
        if (k != 0 && k != 1) {
            return OUTSIDE;
        }
        if (k == 0 ? !kept0 : !kept1) {
            return NOT;
        }
        now.take(k == 0 ? slot0 : slot1);
        past.forget();
        return now.size();
    }

    public int corner(int curve, int corner, int what) {
        if (!isCurve(curve)) {
            return UNKNOWN;
        }
        Shape shape = shapeOf(curve);
        if (corner < 0 || corner >= shape.corners.size) {
            return UNKNOWN;
        }
        if (what < 0 || what > 6) {
            return OUTSIDE;
        }
        if (what < 4) {
            return shape.corners.coordinate(corner, what);
        }
        int leading = shape.corners.markAt(corner);
        if (what == 4) {
            return Places.area(leading);
        }
        return what == 5 ? shape.edgesAt(corner) : leading;
    }

    public int edge(int curve, int edge, int what) {
        if (!isCurve(curve)) {
            return UNKNOWN;
        }
        Shape shape = shapeOf(curve);
        if (edge < 0 || edge >= shape.edgeCount || edge >= shape.edges.length) {
            return UNKNOWN;
        }
        if (what < 0 || what > 9) {
            return OUTSIDE;
        }
        return shape.edges[edge].told(what);
    }

    public long region(int curve, int i, int j, int what) {
        if (!isCurve(curve)) {
            return UNKNOWN;
        }
        if (!Places.isPlace(i, j) || what < 0 || what > 3) {
            return OUTSIDE;
        }
        int place = WIDTH * i + j;
        if (!now.of(curve).has(place)) {
            return NOT;
        }
        Shape shape = shapeOf(curve);
        if (what == 0) {
            return shape.kindOf(place);
        }
        if (what == 1) {
            return shape.sidesOf(place);
        }
        if (shape.kindOf(place) != 1) {
            return NONE;
        }
        return shape.reduced(shape.perimeterOf(place), what == 2);
    }

    public int lift(int curve, int i, int j) {
        if (!isCurve(curve)) {
            return UNKNOWN;
        }
        if (!Places.isPlace(i, j)) {
            return OUTSIDE;
        }
        int highest = now.of(curve).highestSeen(WIDTH * i + j);
        return highest < -MOST_C ? NONE : highest;
    }

    public long way(int curve, int from, int to, int what) {
        if (!isCurve(curve)) {
            return UNKNOWN;
        }
        Shape shape = shapeOf(curve);
        int corners = shape.corners.size;
        if (from < 0 || from >= corners || to < 0 || to >= corners) {
            return UNKNOWN;
        }
        if (what < 0 || what > 2) {
            return OUTSIDE;
        }
        shape.measureFrom(from);
        long units = shape.farTo(to);
        if (units < 0) {
            return NONE;
        }
        return what == 2 ? shape.stepsTo(to) : shape.reduced(units, what == 0);
    }

    public int meeting(int meeting, int what) {
        Points points = meetingsNow().points;
        if (meeting < 0 || meeting >= points.size) {
            return UNKNOWN;
        }
        if (what < 0 || what > 5) {
            return OUTSIDE;
        }
        if (what < 4) {
            return points.coordinate(meeting, what);
        }
        if (what == 4) {
            return points.markAt(meeting);
        }
        return meetings.isSimple(meeting) ? 1 : 0;
    }

    public int count(int curve, int what) {
        if (!isCurve(curve)) {
            return UNKNOWN;
        }
        if (what < 0 || what > 11) {
            return OUTSIDE;
        }
        if (what == 0) {
            return now.of(curve).size();
        }
        if (what == 11) {
            return now.of(curve).degree();
        }
        Shape shape = shapeOf(curve);
        switch (what) {
            case 1:
                return shape.termsNotHidden();
            case 2:
                return shape.corners.size;
            case 3:
                return shape.edgeCount;
            case 4:
                return shape.edgesWithEnds(2);
            case 5:
                return shape.edgesWithEnds(1);
            case 6:
                return shape.holes();
            case 7:
                return shape.bridges();
            case 8:
                return shape.areaOfCells();
            case 9:
                return shape.isSmooth() ? 1 : 0;
            default:
                return shape.greatestWeight();
        }
    }

    public int tally(int what) {
        switch (what) {
            case 0:
                return meetingsNow().points.size;
            case 1:
                return meetingsNow().multiplicities();
            case 2:
                return Places.mixedArea(now.first.places(), now.second.places());
            case 3:
                return meetingsNow().simpleOnes();
            case 4:
                return shapeOf(0).hasEdgesOf(shapeOf(1)) ? 1 : 0;
            case 5:
                return past.size;
            case 6:
                return text.length;
            default:
                return OUTSIDE;
        }
    }

    private static boolean isCurve(int curve) {
        return curve == 0 || curve == 1;
    }

    private static boolean isWithin(int number, int bound) {
        return number >= -bound && number <= bound;
    }

    private Shape shapeOf(int curve) {
        Shape shape = curve == 0 ? shape0 : shape1;
        shape.refresh();
        return shape;
    }

    private Meetings meetingsNow() {
        shape0.refresh();
        shape1.refresh();
        meetings.refresh();
        return meetings;
    }

    /** Functions of whole numbers, of places and of sets of places. */
    private static final class Places {
        static boolean isPlace(int i, int j) {
            return i >= 0 && j >= 0 && i <= DEGREE && j <= DEGREE - i;
        }

        static boolean holds(int set, int place) {
            return (set >> place & 1) == 1;
        }

        /** Above 0 if k lies left of the way from a to b, 0 if on one line with them. */
        static int turn(int a, int b, int k) {
            int forwardI = b / WIDTH - a / WIDTH;
            int forwardJ = b % WIDTH - a % WIDTH;
            return forwardI * (k % WIDTH - a % WIDTH) - forwardJ * (k / WIDTH - a / WIDTH);
        }

        /**
         * Whether a whole side of the set's hull runs from a to b, the hull on its left. Along
         * a line place numbers rise or fall steadily, so they tell what lies between.
         */
        static boolean isHullSide(int set, int a, int b) {
            if (a == b || !holds(set, a) || !holds(set, b)) {
                return false;
            }
            for (int k = 0; k < NUMBERS; k++) {
                if (holds(set, k)) {
                    int turn = turn(a, b, k);
                    if (turn < 0 || turn == 0 && (k < Math.min(a, b) || k > Math.max(a, b))) {
                        return false;
                    }
                }
            }
            return true;
        }

        /** By Minkowski: each side of the one hull times how far the other reaches outwards there. */
        static int mixedArea(int one, int other) {
            int sum = 0;
            for (int a = 0; a < NUMBERS; a++) {
                for (int b = 0; b < NUMBERS; b++) {
                    if (isHullSide(one, a, b)) {
                        sum += reach(other, b % WIDTH - a % WIDTH, a / WIDTH - b / WIDTH);
                    }
                }
            }
            return sum;
        }

        private static int reach(int set, int alongI, int alongJ) {
            boolean found = false;
            int most = 0;
            for (int k = 0; k < NUMBERS; k++) {
                if (holds(set, k)) {
                    int reached = alongI * (k / WIDTH) + alongJ * (k % WIDTH);
                    most = found ? Math.max(most, reached) : reached;
                    found = true;
                }
            }
            return most;
        }

        static int area(int set) {
            return mixedArea(set, set);
        }

        /** At least 1, so that it can always divide; 64 rounds are enough for any two ints. */
        static int divisor(int a, int b) {
            int one = Math.abs(a);
            int other = Math.abs(b);
            for (int round = 0; round < 64 && other != 0; round++) {
                int rest = one % other;
                one = other;
                other = rest;
            }
            return Math.max(one, 1);
        }
    }

    /** One polynomial: for each place number the c of its term, or NONE. */
    private static final class Terms {
        private final int[] c = new int[NUMBERS];

        /** Lets a shape see that it is out of date. */
        int changes = 0;

        Terms() {
            clear();
        }

        void clear() {
            for (int k = 0; k < c.length; k++) {
                c[k] = NONE;
            }
            changes++;
        }

        void take(Terms other) {
            for (int k = 0; k < c.length && k < other.c.length; k++) {
                c[k] = other.c[k];
            }
            changes++;
        }

        int at(int place) {
            return place >= 0 && place < c.length ? c[place] : NONE;
        }

        boolean has(int place) {
            return at(place) != NONE;
        }

        void set(int place, int value) {
            if (place >= 0 && place < c.length) {
                c[place] = value;
                changes++;
            }
        }

        /** Of several terms at one place the smallest stays. */
        void lower(int place, int value) {
            if (!has(place) || at(place) > value) {
                set(place, value);
            }
        }

        int size() {
            return Integer.bitCount(places());
        }

        int places() {
            int set = 0;
            for (int k = 0; k < c.length; k++) {
                if (c[k] != NONE) {
                    set |= 1 << k;
                }
            }
            return set;
        }

        int degree() {
            int most = NONE;
            for (int k = 0; k < c.length; k++) {
                if (c[k] != NONE) {
                    most = Math.max(most, k / WIDTH + k % WIDTH);
                }
            }
            return most;
        }

        boolean isInRange() {
            for (int k = 0; k < c.length; k++) {
                if (c[k] != NONE && (c[k] < -MOST_C || c[k] > MOST_C)) {
                    return false;
                }
            }
            return true;
        }

        /** d times the value of a term at (x / d, y / d). */
        private int worth(int place, int x, int y, int d) {
            int own = place >= 0 && place < c.length ? c[place] : 0;
            return d * own + place / WIDTH * x + place % WIDTH * y;
        }

        int least(int x, int y, int d) {
            boolean found = false;
            int least = 0;
            for (int k = 0; k < c.length; k++) {
                if (c[k] != NONE) {
                    int worth = worth(k, x, y, d);
                    least = found ? Math.min(least, worth) : worth;
                    found = true;
                }
            }
            return least;
        }

        int leading(int x, int y, int d) {
            int set = 0;
            int least = 0;
            for (int k = 0; k < c.length; k++) {
                if (c[k] != NONE) {
                    int worth = worth(k, x, y, d);
                    if (set == 0 || worth < least) {
                        least = worth;
                        set = 1 << k;
                    } else if (worth == least) {
                        set |= 1 << k;
                    }
                }
            }
            return set;
        }

        /** Cheaper than the leading set where most points asked about are not on the curve. */
        boolean isLeading(int place, int x, int y, int d) {
            int worth = worth(place, x, y, d);
            for (int k = 0; k < c.length; k++) {
                if (c[k] != NONE && worth(k, x, y, d) < worth) {
                    return false;
                }
            }
            return true;
        }

        int becomeMoved(Terms old, int dx, int dy) {
            take(old);
            int changed = 0;
            for (int k = 0; k < c.length; k++) {
                int down = k / WIDTH * dx + k % WIDTH * dy;
                if (c[k] != NONE && down != 0) {
                    c[k] -= down;
                    changed++;
                }
            }
            return changed;
        }

        int becomeMirrored(Terms old) {
            clear();
            int changed = 0;
            for (int k = 0; k < NUMBERS; k++) {
                if (old.has(k)) {
                    int mirrored = k % WIDTH * WIDTH + k / WIDTH;
                    set(mirrored, old.at(k));
                    changed += mirrored == k ? 0 : 1;
                }
            }
            return changed;
        }

        void becomeLeast(Terms one, Terms other) {
            take(one);
            for (int k = 0; k < NUMBERS; k++) {
                if (other.has(k)) {
                    lower(k, other.at(k));
                }
            }
        }

        /** Answers false if a term of the product would be at no place. */
        boolean becomeProduct(Terms one, Terms other) {
            clear();
            for (int a = 0; a < NUMBERS; a++) {
                for (int b = 0; b < NUMBERS; b++) {
                    if (one.has(a) && other.has(b)) {
                        if (!Places.isPlace(a / WIDTH + b / WIDTH, a % WIDTH + b % WIDTH)) {
                            return false;
                        }
                        lower(a + b, one.at(a) + other.at(b));
                    }
                }
            }
            return true;
        }

        /**
         * The greatest c, at most 999, for which a term at the place is not hidden by the others.
         * They hide it from the height of their lower hull above the place on, which is the
         * least that a segment or a triangle of others around the place has there.
         */
        int highestSeen(int place) {
            int highest = MOST_C;
            for (int a = 0; a < NUMBERS; a++) {
                for (int b = a + 1; b < NUMBERS; b++) {
                    if (a != place && b != place && has(a) && has(b)) {
                        highest = Math.min(highest, belowSegment(place, a, b));
                        for (int d = b + 1; d < NUMBERS; d++) {
                            if (d != place && has(d)) {
                                highest = Math.min(highest, belowTriangle(place, a, b, d));
                            }
                        }
                    }
                }
            }
            return highest;
        }

        private int belowSegment(int place, int a, int b) {
            if (place <= a || place >= b || Places.turn(a, b, place) != 0) {
                return MOST_C;
            }
            return below(at(a) * (b - place) + at(b) * (place - a), b - a);
        }

        private int belowTriangle(int place, int a, int b, int d) {
            int whole = Places.turn(a, b, d);
            int sign = whole < 0 ? -1 : 1;
            int shareA = sign * Places.turn(place, b, d);
            int shareB = sign * Places.turn(a, place, d);
            int shareD = sign * Places.turn(a, b, place);
            if (whole == 0 || shareA <= 0 || shareB <= 0 || shareD <= 0) {
                return MOST_C;
            }
            return below(at(a) * shareA + at(b) * shareB + at(d) * shareD, sign * whole);
        }

        /** The greatest integer below a fraction. */
        private static int below(int top, int bottom) {
            return bottom > 0 ? Math.floorDiv(top - 1, bottom) : MOST_C;
        }
    }

    /** The terms of both curves, as they are now or were once. */
    private static final class Pair {
        final Terms first = new Terms();
        final Terms second = new Terms();

        Terms of(int curve) {
            return curve == 0 ? first : second;
        }

        void take(Pair other) {
            first.take(other.first);
            second.take(other.second);
        }

        int size() {
            return first.size() + second.size();
        }
    }

    /** What the curves were before the latest changes; the oldest gives way to the newest. */
    private static final class Past {
        private final Pair[] rows = new Pair[MOST_CHANGES];
        private int next = 0;
        int size = 0;

        Past() {
            for (int k = 0; k < rows.length; k++) {
                rows[k] = new Pair();
            }
        }

        void remember(Pair now) {
            if (next < 0 || next >= rows.length) {
                return;
            }
            rows[next].take(now);
            next = (next + 1) % MOST_CHANGES;
            size = Math.min(size + 1, MOST_CHANGES);
        }

        void recall(Pair now) {
            int latest = (next + MOST_CHANGES - 1) % MOST_CHANGES;
            if (size == 0 || latest < 0 || latest >= rows.length) {
                return;
            }
            next = latest;
            size--;
            now.take(rows[latest]);
        }

        void forget() {
            size = 0;
        }
    }

    /** The bytes written so far, and the token that was looked at last. */
    private static final class Text {
        static final int DIGITS = 256;
        static final int END = 257;

        private final int[] bytes = new int[MOST_BYTES];
        int length = 0;
        private int at = 0;

        /** Of the token: a byte, DIGITS or END; its first byte; and of digits how many and their number. */
        int kind = END;
        int start = 0;
        int digits = 0;
        int number = 0;

        boolean append(int letter) {
            if (length >= bytes.length) {
                return false;
            }
            bytes[length] = letter;
            length++;
            return true;
        }

        void rewind() {
            at = 0;
        }

        void next() {
            while (at < length && at < bytes.length && bytes[at] == ' ') {
                at++;
            }
            start = at;
            digits = 0;
            number = 0;
            if (at >= length || at >= bytes.length) {
                kind = END;
            } else if (isDigit(bytes[at])) {
                kind = DIGITS;
                nextDigits();
            } else {
                kind = bytes[at];
                at++;
            }
        }

        /** The number matters for at most three digits only, and longer ones would not fit. */
        private void nextDigits() {
            while (at < length && at < bytes.length && isDigit(bytes[at])) {
                if (digits < 3) {
                    number = number * 10 + bytes[at] - '0';
                }
                digits++;
                at++;
            }
        }

        private static boolean isDigit(int letter) {
            return letter >= '0' && letter <= '9';
        }
    }

    /** Reads the clauses of the text, token by token. */
    private static final class Reader {
        private static final int AT_CLAUSE = 0;
        private static final int AT_COLON = 1;
        private static final int AT_PART = 2;
        private static final int BEHIND_MINUS = 3;
        private static final int BEHIND_DIGITS = 4;
        private static final int BEHIND_PART = 5;

        private final Text text;
        private int state = AT_CLAUSE;

        final Pair result = new Pair();
        boolean names0 = false;
        boolean names1 = false;
        int clauses = 0;
        private int curve = 0;

        /** The term that is being read. */
        private int i = 0;
        private int j = 0;
        private int c = 0;
        private int parts = 0;
        private boolean hasX = false;
        private boolean hasY = false;
        private boolean hasNumber = false;
        private int digits = 0;

        Reader(Text text) {
            this.text = text;
        }

        /** Answers the fault position, or NONE; each token but the end takes a byte at least. */
        int read() {
            text.rewind();
            state = AT_CLAUSE;
            names0 = false;
            names1 = false;
            clauses = 0;
            beginTerm();
            for (int round = 0; round <= MOST_BYTES; round++) {
                text.next();
                if (!accept(text.kind)) {
                    return text.start;
                }
                if (text.kind == Text.END) {
                    return NONE;
                }
            }
            return text.length;
        }

        private boolean accept(int kind) {
            switch (state) {
                case AT_CLAUSE:
                    return beginClause(kind);
                case AT_COLON:
                    state = AT_PART;
                    return kind == ':';
                case AT_PART:
                    return beginPart(kind);
                case BEHIND_MINUS:
                    return kind == Text.DIGITS && text.digits <= 3 && takeNumber(-text.number);
                case BEHIND_DIGITS:
                    if (kind == 'x' || kind == 'y') {
                        return takeLetter(kind, digits);
                    }
                    return !hasNumber && takeNumber(digits) && followPart(kind);
                default:
                    return followPart(kind);
            }
        }

        private boolean beginClause(int kind) {
            if (kind != Text.DIGITS || text.digits != 1 || text.number > 1) {
                return false;
            }
            curve = text.number;
            names0 = names0 || curve == 0;
            names1 = names1 || curve == 1;
            result.of(curve).clear();
            clauses++;
            state = AT_COLON;
            return true;
        }

        private boolean beginPart(int kind) {
            if (kind == Text.DIGITS) {
                digits = text.number;
                state = BEHIND_DIGITS;
                return text.digits <= 3;
            }
            if (kind == '-') {
                state = BEHIND_MINUS;
                return !hasNumber;
            }
            return takeLetter(kind, 1);
        }

        private boolean takeLetter(int kind, int power) {
            if (kind == 'x' && !hasX && power + j <= DEGREE) {
                hasX = true;
                i = power;
            } else if (kind == 'y' && !hasY && i + power <= DEGREE) {
                hasY = true;
                j = power;
            } else {
                return false;
            }
            parts++;
            state = BEHIND_PART;
            return true;
        }

        private boolean takeNumber(int number) {
            hasNumber = true;
            c = number;
            parts++;
            state = BEHIND_PART;
            return true;
        }

        private boolean followPart(int kind) {
            if (kind == '+') {
                state = AT_PART;
                return parts < 3;
            }
            boolean more = kind == ';' && clauses < MOST_CLAUSES;
            if (kind != ',' && kind != Text.END && !more) {
                return false;
            }
            result.of(curve).lower(WIDTH * i + j, c);
            beginTerm();
            state = more ? AT_CLAUSE : AT_PART;
            return true;
        }

        private void beginTerm() {
            i = 0;
            j = 0;
            c = 0;
            parts = 0;
            hasX = false;
            hasY = false;
            hasNumber = false;
            digits = 0;
        }
    }

    /** Distinct points with exact coordinates, sorted by x and then y, each with a mark. */
    private static final class Points {
        private final int[] xTop;
        private final int[] xBottom;
        private final int[] yTop;
        private final int[] yBottom;
        private final int[] mark;
        int size = 0;

        Points(int most) {
            int room = Math.max(most, 0);
            xTop = new int[room];
            xBottom = new int[room];
            yTop = new int[room];
            yBottom = new int[room];
            mark = new int[room];
        }

        void clear() {
            size = 0;
        }

        int markAt(int at) {
            return at >= 0 && at < size ? mark[at] : 0;
        }

        /** what = 0, 1: x's numerator and denominator; 2, 3: y's. */
        int coordinate(int at, int what) {
            if (at < 0 || at >= size) {
                return 0;
            }
            switch (what) {
                case 0:
                    return xTop[at];
                case 1:
                    return xBottom[at];
                case 2:
                    return yTop[at];
                default:
                    return yBottom[at];
            }
        }

        /** Adds the point (x / d, y / d), d above 0, unless it is there. */
        void add(int x, int y, int d, int newMark) {
            int at = 0;
            while (at < size && compare(at, x, y, d) < 0) {
                at++;
            }
            if (size >= mark.length || at < size && compare(at, x, y, d) == 0) {
                return;
            }
            for (int k = size; k > at; k--) {
                copy(k - 1, k);
            }
            int common = Places.divisor(x, d);
            xTop[at] = x / common;
            xBottom[at] = d / common;
            common = Places.divisor(y, d);
            yTop[at] = y / common;
            yBottom[at] = d / common;
            mark[at] = newMark;
            size++;
        }

        private void copy(int from, int to) {
            xTop[to] = xTop[from];
            xBottom[to] = xBottom[from];
            yTop[to] = yTop[from];
            yBottom[to] = yBottom[from];
            mark[to] = mark[from];
        }

        private int compare(int at, int x, int y, int d) {
            int byX = Long.compare((long) xTop[at] * d, (long) x * xBottom[at]);
            return byX != 0 ? byX : Long.compare((long) yTop[at] * d, (long) y * yBottom[at]);
        }

        /** Fractions in lowest terms are equal only if written alike. */
        boolean isSame(int at, Points other, int there) {
            for (int what = 0; what < 4; what++) {
                if (coordinate(at, what) != other.coordinate(there, what)) {
                    return false;
                }
            }
            return true;
        }

        boolean contains(Points other, int there) {
            for (int at = 0; at < size; at++) {
                if (isSame(at, other, there)) {
                    return true;
                }
            }
            return false;
        }
    }

    /** An edge of a curve. */
    private static final class Edge {
        int foot = 0;
        int head = 0;

        /** By how much c rises from the foot to the head. */
        int rise = 0;
        int weight = 1;
        int start = NONE;
        int end = NONE;
        int u = 0;
        int v = 0;
        int lengthTop = NONE;
        int lengthBottom = NONE;
        boolean isBridge = false;

        void become(int newFoot, int newHead, int newRise) {
            foot = newFoot;
            head = newHead;
            rise = newRise;
            weight = Places.divisor(stepI(), stepJ());
            start = NONE;
            end = NONE;
            u = stepJ() / weight;
            v = -stepI() / weight;
            if (u < 0 || u == 0 && v < 0) {
                turnRound();
            }
            lengthTop = NONE;
            lengthBottom = NONE;
            isBridge = false;
        }

        int stepI() {
            return head / WIDTH - foot / WIDTH;
        }

        int stepJ() {
            return head % WIDTH - foot % WIDTH;
        }

        private void turnRound() {
            u = -u;
            v = -v;
        }

        /** Lets the edge end at a vertex; it must leave the first one towards smaller values of its terms. */
        void endAt(int corner, boolean cellIsLeft) {
            if (start != NONE) {
                end = corner;
                return;
            }
            start = corner;
            boolean goesLeft = stepI() * v - stepJ() * u > 0;
            if (goesLeft != cellIsLeft) {
                turnRound();
            }
        }

        int ends() {
            if (start == NONE) {
                return 0;
            }
            return end == NONE ? 1 : 2;
        }

        boolean isBounded() {
            return end != NONE;
        }

        boolean touches(int corner) {
            return start == corner || end == corner;
        }

        boolean isSideOf(int place) {
            return foot == place || head == place;
        }

        /** The vertices of a set, with the edge's ends if it has one of them. */
        int spread(int reached) {
            if (!isBounded()) {
                return reached;
            }
            int both = 1 << start | 1 << end;
            return (reached & both) == 0 ? reached : reached | both;
        }

        void measure(Points corners) {
            if (!isBounded()) {
                return;
            }
            int from = u != 0 ? 0 : 2;
            int step = u != 0 ? u : v;
            int top = corners.coordinate(end, from) * corners.coordinate(start, from + 1)
                - corners.coordinate(start, from) * corners.coordinate(end, from + 1);
            int bottom = corners.coordinate(end, from + 1) * corners.coordinate(start, from + 1) * step;
            int common = Places.divisor(top, bottom);
            lengthTop = Math.abs(top) / common;
            lengthBottom = Math.abs(bottom) / common;
        }

        /** On the same line with the same weight, steps and rise are the same: feet come before heads. */
        boolean hasLineOf(Edge other) {
            return stepI() == other.stepI() && stepJ() == other.stepJ() && rise == other.rise;
        }

        int told(int what) {
            switch (what) {
                case 0:
                    return foot;
                case 1:
                    return head;
                case 2:
                    return weight;
                case 3:
                    return start;
                case 4:
                    return end;
                case 5:
                    return u;
                case 6:
                    return v;
                case 7:
                    return lengthTop;
                case 8:
                    return lengthBottom;
                default:
                    return isBridge ? 1 : 0;
            }
        }
    }

    /** The vertices and edges of one curve, found anew when its terms have changed. */
    private static final class Shape {
        final Terms terms;
        private int changesSeen = -1;
        final Points corners = new Points(MOST_CORNERS);
        final Edge[] edges = new Edge[MOST_EDGES];
        int edgeCount = 0;

        /** All lengths are multiples of 1 / unit. */
        private long unit = 1;

        /** Of the vertices: how far, in units, and over how many edges; -1 if there is no way. */
        private final long[] far = new long[MOST_CORNERS];
        private final int[] steps = new int[MOST_CORNERS];

        Shape(Terms terms) {
            this.terms = terms;
            for (int k = 0; k < edges.length; k++) {
                edges[k] = new Edge();
            }
        }

        void refresh() {
            if (changesSeen == terms.changes) {
                return;
            }
            changesSeen = terms.changes;
            findCorners();
            findEdges();
            findUnit();
            findBridges();
        }

        private void findCorners() {
            corners.clear();
            for (int a = 0; a < NUMBERS; a++) {
                for (int b = a + 1; b < NUMBERS; b++) {
                    for (int d = b + 1; d < NUMBERS; d++) {
                        if (terms.has(a) && terms.has(b) && terms.has(d)) {
                            tryCorner(a, b, d);
                        }
                    }
                }
            }
        }

        /** The point where three terms are equal, by Cramer's rule. */
        private void tryCorner(int a, int b, int d) {
            int whole = Places.turn(a, b, d);
            if (whole == 0) {
                return;
            }
            int sign = whole < 0 ? -1 : 1;
            int fallB = sign * (terms.at(a) - terms.at(b));
            int fallD = sign * (terms.at(a) - terms.at(d));
            int x = fallB * (d % WIDTH - a % WIDTH) - fallD * (b % WIDTH - a % WIDTH);
            int y = fallD * (b / WIDTH - a / WIDTH) - fallB * (d / WIDTH - a / WIDTH);
            int scale = sign * whole;
            if (terms.isLeading(a, x, y, scale)) {
                corners.add(x, y, scale, terms.leading(x, y, scale));
            }
        }

        private void findEdges() {
            edgeCount = 0;
            for (int foot = 0; foot < NUMBERS; foot++) {
                for (int head = foot + 1; head < NUMBERS; head++) {
                    if (terms.has(foot) && terms.has(head) && edgeCount < edges.length) {
                        if (describe(edges[edgeCount], foot, head)) {
                            edgeCount++;
                        }
                    }
                }
            }
        }

        /**
         * Answers whether foot and head have an edge. A curve with vertices has no edge that
         * ends at none; one without vertices has all its terms on one line.
         */
        private boolean describe(Edge edge, int foot, int head) {
            edge.become(foot, head, terms.at(head) - terms.at(foot));
            for (int corner = 0; corner < corners.size; corner++) {
                int cell = corners.markAt(corner);
                if (Places.isHullSide(cell, foot, head)) {
                    edge.endAt(corner, true);
                } else if (Places.isHullSide(cell, head, foot)) {
                    edge.endAt(corner, false);
                }
            }
            edge.measure(corners);
            return edge.start != NONE || corners.size == 0 && isWholeLine(edge);
        }

        /** Looks at the point of the line that is nearest to (0, 0). */
        private boolean isWholeLine(Edge edge) {
            int stepI = edge.stepI();
            int stepJ = edge.stepJ();
            int leading = terms.leading(-edge.rise * stepI, -edge.rise * stepJ, stepI * stepI + stepJ * stepJ);
            return Places.isHullSide(leading, edge.foot, edge.head);
        }

        private void findUnit() {
            unit = 1;
            for (int k = 0; k < edgeCount && k < edges.length; k++) {
                int bottom = edges[k].lengthBottom;
                if (edges[k].isBounded() && bottom > 0) {
                    unit *= bottom / Places.divisor((int) (unit % bottom), bottom);
                }
            }
        }

        private void findBridges() {
            for (int k = 0; k < edgeCount && k < edges.length; k++) {
                edges[k].isBridge = edges[k].isBounded() && !hasDetour(edges[k]);
            }
        }

        private boolean hasDetour(Edge without) {
            int reached = 1 << without.start;
            for (int round = 0; round < corners.size; round++) {
                for (int k = 0; k < edgeCount && k < edges.length; k++) {
                    reached = edges[k] == without ? reached : edges[k].spread(reached);
                }
            }
            return (reached >> without.end & 1) == 1;
        }

        int edgesAt(int corner) {
            int found = 0;
            for (int k = 0; k < edgeCount && k < edges.length; k++) {
                found += edges[k].touches(corner) ? 1 : 0;
            }
            return found;
        }

        int edgesWithEnds(int ends) {
            int found = 0;
            for (int k = 0; k < edgeCount && k < edges.length; k++) {
                found += edges[k].ends() == ends ? 1 : 0;
            }
            return found;
        }

        int bridges() {
            int found = 0;
            for (int k = 0; k < edgeCount && k < edges.length; k++) {
                found += edges[k].isBridge ? 1 : 0;
            }
            return found;
        }

        int greatestWeight() {
            int most = 0;
            for (int k = 0; k < edgeCount && k < edges.length; k++) {
                most = Math.max(most, edges[k].weight);
            }
            return most;
        }

        int areaOfCells() {
            int sum = 0;
            for (int corner = 0; corner < corners.size; corner++) {
                sum += Places.area(corners.markAt(corner));
            }
            return sum;
        }

        /** No cell has an area below 1. */
        boolean isSmooth() {
            return corners.size > 0 && areaOfCells() == corners.size;
        }

        int sidesOf(int place) {
            int sides = 0;
            for (int k = 0; k < edgeCount && k < edges.length; k++) {
                sides += edges[k].isSideOf(place) ? 1 : 0;
            }
            return sides;
        }

        private boolean hasOpenSide(int place) {
            for (int k = 0; k < edgeCount && k < edges.length; k++) {
                if (edges[k].isSideOf(place) && !edges[k].isBounded()) {
                    return true;
                }
            }
            return false;
        }

        /** 0: hidden, 1: closed, 2: open. A term without sides is hidden unless it is alone. */
        int kindOf(int place) {
            if (sidesOf(place) == 0) {
                return terms.size() > 1 ? 0 : 2;
            }
            return hasOpenSide(place) ? 2 : 1;
        }

        int termsNotHidden() {
            int found = 0;
            for (int k = 0; k < NUMBERS; k++) {
                found += terms.has(k) && kindOf(k) != 0 ? 1 : 0;
            }
            return found;
        }

        int holes() {
            int found = 0;
            for (int k = 0; k < NUMBERS; k++) {
                found += terms.has(k) && kindOf(k) == 1 ? 1 : 0;
            }
            return found;
        }

        /** In units, as all that follows. */
        long perimeterOf(int place) {
            long sum = 0;
            for (int k = 0; k < edgeCount && k < edges.length; k++) {
                if (edges[k].isSideOf(place)) {
                    sum += lengthOf(edges[k]);
                }
            }
            return sum;
        }

        private long lengthOf(Edge edge) {
            return edge.lengthBottom > 0 ? unit / edge.lengthBottom * edge.lengthTop : 0;
        }

        /** The numerator or the denominator of so many units. */
        long reduced(long units, boolean numerator) {
            int rest = unit > 0 ? (int) (units % unit) : 0;
            long common = Places.divisor(rest, (int) unit);
            return (numerator ? units : unit) / common;
        }

        /** Each round carries the shortest ways on by one edge at least. */
        void measureFrom(int from) {
            for (int k = 0; k < far.length && k < steps.length; k++) {
                far[k] = k == from ? 0 : -1;
                steps[k] = 0;
            }
            for (int round = 0; round < corners.size; round++) {
                for (int k = 0; k < edgeCount && k < edges.length; k++) {
                    if (edges[k].isBounded()) {
                        shorten(edges[k].start, edges[k].end, lengthOf(edges[k]));
                        shorten(edges[k].end, edges[k].start, lengthOf(edges[k]));
                    }
                }
            }
        }

        private void shorten(int from, int to, long length) {
            if (farTo(from) < 0 || to < 0 || to >= far.length || to >= steps.length) {
                return;
            }
            long reached = farTo(from) + length;
            int stepsReached = stepsTo(from) + 1;
            boolean isLess = far[to] < 0 || reached < far[to];
            if (isLess || reached == far[to] && stepsReached < steps[to]) {
                far[to] = reached;
                steps[to] = stepsReached;
            }
        }

        long farTo(int corner) {
            return corner >= 0 && corner < far.length ? far[corner] : -1;
        }

        int stepsTo(int corner) {
            return corner >= 0 && corner < steps.length ? steps[corner] : 0;
        }

        /** Edges of one curve have no common points, so equal numbers of edges that match are enough. */
        boolean hasEdgesOf(Shape other) {
            if (edgeCount != other.edgeCount) {
                return false;
            }
            for (int k = 0; k < edgeCount && k < edges.length; k++) {
                if (!other.hasEdge(this, edges[k])) {
                    return false;
                }
            }
            return true;
        }

        private boolean hasEdge(Shape other, Edge edge) {
            for (int k = 0; k < edgeCount && k < edges.length; k++) {
                if (edges[k].hasLineOf(edge) && hasSameEnds(edges[k], other, edge)) {
                    return true;
                }
            }
            return false;
        }

        private boolean hasSameEnds(Edge own, Shape other, Edge edge) {
            int ends = own.ends();
            if (ends != edge.ends() || own.u != edge.u || own.v != edge.v) {
                return false;
            }
            boolean startsThere = ends < 1 || corners.isSame(own.start, other.corners, edge.start);
            return startsThere && (ends < 2 || corners.isSame(own.end, other.corners, edge.end));
        }
    }

    /** The stable intersection of both curves; the marks of its points are their multiplicities. */
    private static final class Meetings {
        private final Shape one;
        private final Shape other;
        private int changesOfOne = -1;
        private int changesOfOther = -1;
        final Points points = new Points(MOST_MEETINGS);

        Meetings(Shape one, Shape other) {
            this.one = one;
            this.other = other;
        }

        /** Expects both shapes to be up to date. Each intersection lies on two edges, or at their ends, that are not parallel. */
        void refresh() {
            if (changesOfOne == one.terms.changes && changesOfOther == other.terms.changes) {
                return;
            }
            changesOfOne = one.terms.changes;
            changesOfOther = other.terms.changes;
            points.clear();
            for (int a = 0; a < one.edgeCount && a < one.edges.length; a++) {
                for (int b = 0; b < other.edgeCount && b < other.edges.length; b++) {
                    tryCrossing(one.edges[a], other.edges[b]);
                }
            }
        }

        /** The point where the lines of two edges cross, by Cramer's rule. */
        private void tryCrossing(Edge a, Edge b) {
            int whole = a.stepI() * b.stepJ() - a.stepJ() * b.stepI();
            if (whole == 0) {
                return;
            }
            int sign = whole < 0 ? -1 : 1;
            int x = sign * (a.stepJ() * b.rise - b.stepJ() * a.rise);
            int y = sign * (b.stepI() * a.rise - a.stepI() * b.rise);
            int scale = sign * whole;
            if (one.terms.isLeading(a.foot, x, y, scale) && other.terms.isLeading(b.foot, x, y, scale)) {
                int mixed = Places.mixedArea(one.terms.leading(x, y, scale), other.terms.leading(x, y, scale));
                points.add(x, y, scale, mixed);
            }
        }

        int multiplicities() {
            int sum = 0;
            for (int k = 0; k < points.size; k++) {
                sum += points.markAt(k);
            }
            return sum;
        }

        boolean isSimple(int meeting) {
            return !one.corners.contains(points, meeting) && !other.corners.contains(points, meeting);
        }

        int simpleOnes() {
            int found = 0;
            for (int k = 0; k < points.size; k++) {
                found += isSimple(k) ? 1 : 0;
            }
            return found;
        }
    }
}
