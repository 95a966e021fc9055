import java.util.Arrays;

/**
 * Track from a box: rows of straights, bends and crossings that lead somewhere, exactly, in whole
 * numbers and whole numbers of roots of two, and the rings that close from what is in the box.
 */
public final class TrackBox {
    private static final int NOBODY = -1;
    private static final int OTHER = -2;
    private static final int STATE = -3;
    private static final int BELOW = -4;
    private static final int ROOM = -6;
    private static final int NONE = -9;
    private static final int FAULT = -20;
    private static final int FAR = 1000000000;

    private static final int KINDS = 7;
    private static final int LETTERS = 10;
    private static final int DIRECTIONS = 8;
    private static final int MOST_PIECES = 24;
    private static final int MOST_FED = 8;
    private static final int MOST_MANY = 9;
    private static final int MOST_SIZE = 20;
    private static final int MOST_LEGS = 6;
    private static final int MOST_TURNS = 6;
    private static final int SHARPEST = 2;
    private static final int MOST_RING = 6;
    private static final int MOST_NEAR = 5;
    private static final int EDGE = 400;
    private static final int WITHIN = 1000000;

    // By letter, in the order a b c l m r s q t x.
    private static final int[] SIGNS = {97, 98, 99, 108, 109, 114, 115, 113, 116, 120};
    private static final int[] KIND_OF = {0, 1, 2, 3, 4, 3, 4, 5, 5, 6};
    private static final int[] TURN_OF = {0, 0, 0, 1, 1, -1, -1, 2, -2, 0};
    private static final int[] MIRROR_OF = {0, 1, 2, 5, 6, 3, 4, 8, 7, 9};
    private static final int CROSSING = 9;

    private static final int[] FIRST_SIZES = {4, 2, 1, 4, 6, 4, 4};
    private static final int[] FIRST_SIDES = {-400, 400, -400, 400};
    private static final int LEFT = 0;
    private static final int RIGHT = 1;
    private static final int UNDER = 2;
    private static final int ABOVE = 3;

    private final Layout now = new Layout();
    private final Layout then = new Layout();
    private boolean taken;
    private final Moves moves = new Moves();
    private final Walk walk = new Walk(moves);
    private final RingSearch search = new RingSearch(now, moves, walk);
    private final Trial trial = new Trial(now, moves);
    private final int[] tape = new int[MOST_PIECES];
    private int fed;
    private final int[] turns = new int[MOST_TURNS];
    private int turnsTold;
    private final int[] refused = new int[KINDS];

    public TrackBox() {
        moves.measure(now.sizes);
    }

    public int feed(int n, long bytes) {
        if (n < 1) {
            return refuse(BELOW);
        }
        if (n > MOST_FED || fed + n > MOST_PIECES) {
            return refuse(ROOM);
        }
        for (int i = 0; i < n; i++) {
            put(tape, fed + i, (int) (bytes >>> (8 * i)) & 255);
        }
        fed += n;
        return fed;
    }

    public int row() {
        int many = fed;
        fed = 0;
        for (int i = 0; i < many; i++) {
            int letter = letterOf(at(tape, i));
            if (letter < 0) {
                return FAULT - i;
            }
            put(tape, i, letter);
        }
        now.becomes(tape, many);
        return now.pieces;
    }

    public int box(int kind, int many) {
        if (kind < 0 || kind >= KINDS) {
            return refuse(NOBODY);
        }
        if (many < 0) {
            return refuse(BELOW);
        }
        if (many > MOST_MANY) {
            return refuse(ROOM);
        }
        int was = at(now.many, kind);
        put(now.many, kind, many);
        return was;
    }

    public int size(int kind, int v) {
        if (kind < 0 || kind >= KINDS) {
            return refuse(NOBODY);
        }
        if (v < 1) {
            return refuse(BELOW);
        }
        if (v > MOST_SIZE) {
            return refuse(ROOM);
        }
        int was = at(now.sizes, kind);
        put(now.sizes, kind, v);
        measureAnew();
        return was;
    }

    public int piece(int i) {
        return i < 0 || i >= now.pieces ? NONE : at(now.letters, i);
    }

    public int joint(int i, int what) {
        if (i < 0 || i > now.pieces) {
            return refuseFar(NOBODY);
        }
        if (what < 0 || what > 4) {
            return refuseFar(OTHER);
        }
        walk.follow(now.letters, now.pieces);
        return what == 4 ? at(walk.directions, i) : Numbers.part(placeAt(walk.places, i), what);
    }

    public int closes() {
        walk.follow(now.letters, now.pieces);
        return yes(walk.isClosed());
    }

    public int uses() {
        return yes(now.lacking(now.letters, now.pieces) == 0);
    }

    public int sign(int whole, int root) {
        if (whole < -WITHIN || whole > WITHIN || root < -WITHIN || root > WITHIN) {
            return refuse(STATE);
        }
        return Numbers.signOf(whole, root);
    }

    public int gap(int part) {
        if (part != 0 && part != 1) {
            return refuseFar(OTHER);
        }
        walk.follow(now.letters, now.pieces);
        long end = walk.end();
        return (int) (part == 0 ? Numbers.squareWhole(end) : Numbers.squareRoot(end));
    }

    public int nearer(int whole, int root) {
        if (whole < -WITHIN || root < -WITHIN) {
            return refuse(BELOW);
        }
        if (whole > WITHIN || root > WITHIN) {
            return refuse(ROOM);
        }
        walk.follow(now.letters, now.pieces);
        long end = walk.end();
        long wholeMore = Numbers.squareWhole(end) - whole;
        long rootMore = Numbers.squareRoot(end) - root;
        return yes(Numbers.signOf(wholeMore, rootMore) < 0);
    }

    public int table(int side, int v) {
        if (side < LEFT || side > ABOVE) {
            return refuseFar(OTHER);
        }
        if (v < -EDGE) {
            return refuseFar(BELOW);
        }
        if (v > EDGE) {
            return refuseFar(ROOM);
        }
        int was = at(now.sides, side);
        put(now.sides, side, v);
        return was;
    }

    public int leg(int x, int y) {
        if (x < -EDGE || y < -EDGE) {
            return refuse(BELOW);
        }
        if (x > EDGE || y > EDGE || now.legs >= MOST_LEGS) {
            return refuse(ROOM);
        }
        put(now.legX, now.legs, x);
        put(now.legY, now.legs, y);
        now.legs++;
        return now.legs;
    }

    public int off() {
        walk.follow(now.letters, now.pieces);
        return now.firstOff(walk);
    }

    public int touches() {
        walk.follow(now.letters, now.pieces);
        return walk.firstTouch();
    }

    public int lies() {
        walk.follow(now.letters, now.pieces);
        return yes(now.firstOff(walk) == NONE && walk.firstTouch() == NONE);
    }

    public int rings(int n, boolean lie) {
        if (n < 1) {
            return refuse(BELOW);
        }
        if (n > MOST_RING) {
            return refuse(ROOM);
        }
        search.through(n, lie, false, RingSearch.ALL);
        return search.found;
    }

    public int ring(int n, boolean lie, int i) {
        if (n < 1) {
            return refuse(BELOW);
        }
        if (n > MOST_RING) {
            return refuse(ROOM);
        }
        if (i < 0) {
            return NONE;
        }
        search.through(n, lie, false, i);
        if (search.found <= i) {
            return NONE;
        }
        now.becomes(search.letters, n);
        return 1;
    }

    public int most(boolean lie) {
        for (int n = MOST_RING; n >= 1; n--) {
            search.through(n, lie, false, 0);
            if (search.found > 0) {
                return n;
            }
        }
        return NONE;
    }

    public int opens(int n, boolean lie) {
        if (n < 1) {
            return refuse(BELOW);
        }
        if (n > MOST_RING) {
            return refuse(ROOM);
        }
        search.through(n, lie, true, RingSearch.ALL);
        int best = NONE;
        int most = 0;
        for (int kind = 0; kind < KINDS; kind++) {
            int more = at(search.gains, kind);
            if (more > most) {
                most = more;
                best = kind;
            }
        }
        return best;
    }

    public int nearest(int n) {
        if (n < 1) {
            return refuse(BELOW);
        }
        if (n > MOST_NEAR) {
            return refuse(ROOM);
        }
        if (!trial.findsNearest(n)) {
            return NONE;
        }
        now.becomes(trial.best, n);
        return 1;
    }

    public int turn(int v) {
        if (v < -SHARPEST) {
            return refuse(BELOW);
        }
        if (v > SHARPEST || turnsTold >= MOST_TURNS) {
            return refuse(ROOM);
        }
        put(turns, turnsTold, v);
        turnsTold++;
        return turnsTold;
    }

    public int photo() {
        int many = turnsTold;
        turnsTold = 0;
        return trial.rowsOf(turns, many);
    }

    public int image() {
        then.copy(now);
        taken = true;
        return now.pieces;
    }

    public int on() {
        if (!taken) {
            return refuse(STATE);
        }
        now.copy(then);
        measureAnew();
        return now.pieces;
    }

    public int count(int what) {
        if (what > 10 && what <= 16) {
            return at(refused, what - 10);
        }
        switch (what) {
            case 0:
                return now.pieces;
            case 1:
                return now.inBox();
            case 2:
                return now.legs;
            case 3:
                return fed;
            case 4:
                return turnsTold;
            default:
                return NONE;
        }
    }

    private void measureAnew() {
        moves.measure(now.sizes);
        search.forget();
    }

    private int refuse(int refusal) {
        put(refused, -refusal, at(refused, -refusal) + 1);
        return refusal;
    }

    private int refuseFar(int refusal) {
        return FAR - refuse(refusal);
    }

    private static int yes(boolean is) {
        return is ? 1 : 0;
    }

    private static int letterOf(int sign) {
        for (int letter = 0; letter < SIGNS.length; letter++) {
            if (SIGNS[letter] == sign) {
                return letter;
            }
        }
        return -1;
    }

    private static int at(int[] values, int i) {
        return i >= 0 && i < values.length ? values[i] : 0;
    }

    private static void put(int[] values, int i, int v) {
        if (i >= 0 && i < values.length) {
            values[i] = v;
        }
    }

    private static long placeAt(long[] places, int i) {
        return i >= 0 && i < places.length ? places[i] : 0L;
    }

    private static void putPlace(long[] places, int i, long place) {
        if (i >= 0 && i < places.length) {
            places[i] = place;
        }
    }

    private static void copyAll(int[] from, int[] to) {
        for (int i = 0; i < to.length; i++) {
            to[i] = at(from, i);
        }
    }

    /**
     * Numbers of a whole part and a root part, and places of two such numbers. A place is one long:
     * its four parts, each below 2^15, stand 16 bits apart and are added. So places are added,
     * turned about 0, 0 and compared as the longs are.
     */
    private static final class Numbers {
        static int signOf(long whole, long root) {
            if (whole == 0 && root == 0) {
                return 0;
            }
            if (whole >= 0 && root >= 0) {
                return 1;
            }
            if (whole <= 0 && root <= 0) {
                return -1;
            }
            // The parts pull to either side: the greater square wins, and none are equal.
            boolean wholeWins = whole * whole > 2 * root * root;
            return (whole > 0) == wholeWins ? 1 : -1;
        }

        static long place(long xWhole, long xRoot, long yWhole, long yRoot) {
            return (xWhole << 48) + (xRoot << 32) + (yWhole << 16) + yRoot;
        }

        /** The part 0 WHOLE of x, 1 ROOT of x, 2 WHOLE of y, 3 ROOT of y. */
        static int part(long place, int what) {
            long rest = place;
            for (int i = 3; i > what; i--) {
                rest = (rest - (short) rest) >> 16;
            }
            return (short) rest;
        }

        /** The WHOLE part of the square of how far a place is from 0, 0. */
        static long squareWhole(long place) {
            long xWhole = part(place, 0);
            long xRoot = part(place, 1);
            long yWhole = part(place, 2);
            long yRoot = part(place, 3);
            return xWhole * xWhole + yWhole * yWhole + 2 * (xRoot * xRoot + yRoot * yRoot);
        }

        /** The ROOT part of the square of how far a place is from 0, 0. */
        static long squareRoot(long place) {
            long x = (long) part(place, 0) * part(place, 1);
            long y = (long) part(place, 2) * part(place, 3);
            return 2 * (x + y);
        }
    }

    /** What THE IMAGE keeps: THE BOX, THE ROW, TABLE and LEGS. */
    private static final class Layout {
        final int[] many = new int[KINDS];
        final int[] sizes = new int[KINDS];
        final int[] letters = new int[MOST_PIECES];
        int pieces;
        final int[] sides = new int[ABOVE + 1];
        final int[] legX = new int[MOST_LEGS];
        final int[] legY = new int[MOST_LEGS];
        int legs;

        Layout() {
            copyAll(FIRST_SIZES, sizes);
            copyAll(FIRST_SIDES, sides);
        }

        void copy(Layout other) {
            copyAll(other.many, many);
            copyAll(other.sizes, sizes);
            becomes(other.letters, other.pieces);
            copyAll(other.sides, sides);
            copyAll(other.legX, legX);
            copyAll(other.legY, legY);
            legs = other.legs;
        }

        void becomes(int[] row, int n) {
            for (int i = 0; i < n; i++) {
                put(letters, i, at(row, i));
            }
            pieces = n;
        }

        int inBox() {
            int sum = 0;
            for (int kind = 0; kind < many.length; kind++) {
                sum += many[kind];
            }
            return sum;
        }

        /** How many pieces of a kind a row takes. */
        static int taken(int[] row, int n, int kind) {
            int sum = 0;
            for (int i = 0; i < n; i++) {
                if (at(KIND_OF, at(row, i)) == kind) {
                    sum++;
                }
            }
            return sum;
        }

        /** How many pieces a row takes that THE BOX does not have. */
        int lacking(int[] row, int n) {
            int sum = 0;
            for (int kind = 0; kind < KINDS; kind++) {
                sum += Math.max(0, taken(row, n, kind) - at(many, kind));
            }
            return sum;
        }

        /** The least kind of which a row takes more than THE BOX has. */
        int lackedKind(int[] row, int n) {
            for (int kind = 0; kind < KINDS; kind++) {
                if (taken(row, n, kind) > at(many, kind)) {
                    return kind;
                }
            }
            return NONE;
        }

        int firstOff(Walk walk) {
            for (int i = 0; i <= walk.last; i++) {
                long place = placeAt(walk.places, i);
                if (!isOnTable(place) || isAtLeg(place)) {
                    return i;
                }
            }
            return NONE;
        }

        private boolean isOnTable(long place) {
            int x = Numbers.part(place, 0);
            int xRoot = Numbers.part(place, 1);
            int y = Numbers.part(place, 2);
            int yRoot = Numbers.part(place, 3);
            return Numbers.signOf(x - at(sides, LEFT), xRoot) >= 0
                    && Numbers.signOf(x - at(sides, RIGHT), xRoot) <= 0
                    && Numbers.signOf(y - at(sides, UNDER), yRoot) >= 0
                    && Numbers.signOf(y - at(sides, ABOVE), yRoot) <= 0;
        }

        private boolean isAtLeg(long place) {
            for (int i = 0; i < legs; i++) {
                if (place == Numbers.place(at(legX, i), 0, at(legY, i), 0)) {
                    return true;
                }
            }
            return false;
        }
    }

    /** How far each letter leads from each direction. */
    private static final class Moves {
        private final long[] steps = new long[DIRECTIONS * LETTERS];

        long step(int direction, int letter) {
            return placeAt(steps, direction * LETTERS + letter);
        }

        static int turned(int direction, int letter) {
            return (direction + at(TURN_OF, letter)) & (DIRECTIONS - 1);
        }

        void measure(int[] sizes) {
            for (int letter = 0; letter < LETTERS; letter++) {
                measureLetter(letter, at(TURN_OF, letter), at(sizes, at(KIND_OF, letter)));
            }
        }

        private void measureLetter(int letter, int turn, int length) {
            int side = Integer.compare(turn, 0);
            boolean eighth = turn == 1 || turn == -1;
            int xWhole = eighth ? 0 : 2 * length;
            int xRoot = eighth ? length : 0;
            int yWhole = side * 2 * length;
            int yRoot = eighth ? -side * length : 0;
            for (int direction = 0; direction < DIRECTIONS; direction++) {
                long step = Numbers.place(xWhole, xRoot, yWhole, yRoot);
                putPlace(steps, direction * LETTERS + letter, step);
                // An eighth to the left: all is over the root of two, and whole parts are even.
                int ahead = xRoot - yRoot;
                int aside = xRoot + yRoot;
                xRoot = (xWhole - yWhole) / 2;
                yRoot = (xWhole + yWhole) / 2;
                xWhole = ahead;
                yWhole = aside;
            }
        }
    }

    /** The joints of a row. */
    private static final class Walk {
        private final Moves moves;
        final long[] places = new long[MOST_PIECES + 1];
        final int[] directions = new int[MOST_PIECES + 1];
        private final int[] laid = new int[MOST_PIECES];
        int last;

        Walk(Moves moves) {
            this.moves = moves;
        }

        void follow(int[] row, int n) {
            long place = 0;
            int direction = 0;
            for (int i = 0; i < n; i++) {
                int letter = at(row, i);
                place += moves.step(direction, letter);
                direction = Moves.turned(direction, letter);
                put(laid, i, letter);
                putPlace(places, i + 1, place);
                put(directions, i + 1, direction);
            }
            last = n;
        }

        long end() {
            return placeAt(places, last);
        }

        boolean isClosed() {
            return last > 0 && end() == 0 && at(directions, last) == 0;
        }

        int firstTouch() {
            boolean closed = isClosed();
            for (int i = 1; i <= last; i++) {
                for (int earlier = 0; earlier < i; earlier++) {
                    boolean meet = placeAt(places, i) == placeAt(places, earlier);
                    boolean home = closed && i == last && earlier == 0;
                    if (meet && !home && !areCrossings(i, earlier)) {
                        return i;
                    }
                }
            }
            return NONE;
        }

        /** Whether crossings lead to both joints. */
        private boolean areCrossings(int joint, int earlier) {
            return earlier > 0 && at(laid, joint - 1) == CROSSING && at(laid, earlier - 1) == CROSSING;
        }
    }

    /**
     * The rings of n pieces, by letters. A ring's last three pieces are its tail, the others its
     * head; all tails are kept by the end that a head must have for the ring to close.
     */
    private static final class RingSearch {
        static final int ALL = 1000000000;
        private static final int TAIL = 3;
        private static final int TAILS = 1000;
        private static final int SLOTS = 1024;

        private final Layout layout;
        private final Moves moves;
        private final Walk walk;
        private final long[] ends = new long[TAILS];
        private final int[] nextTail = new int[TAILS];
        private final int[] firstTail = new int[SLOTS];
        private boolean gathered;
        final int[] letters = new int[MOST_RING];
        final int[] gains = new int[KINDS];
        int found;

        RingSearch(Layout layout, Moves moves, Walk walk) {
            this.layout = layout;
            this.moves = moves;
            this.walk = walk;
        }

        /** The sizes are others now: so are the ends of tails. */
        void forget() {
            gathered = false;
        }

        /**
         * Counts the rings as found, and (if one piece may lack) those that one piece more of a
         * kind would let be as this kind's gains. Stops at the ring of number stop: the letters
         * are this ring's then.
         */
        void through(int n, boolean lie, boolean mayLack, int stop) {
            gather();
            found = 0;
            Arrays.fill(gains, 0);
            // One piece or two never close: they turn to one side and back, and lead ahead.
            if (n < TAIL || n > MOST_RING) {
                return;
            }
            int heads = 1;
            for (int i = TAIL; i < n; i++) {
                heads *= LETTERS;
            }
            for (int head = 0; head < heads && found <= stop; head++) {
                layAt(0, n - TAIL, head);
                if (isFirstSoFar(n - TAIL) && lacks(n - TAIL, mayLack) >= 0) {
                    throughTails(n, lie, mayLack, stop);
                }
            }
        }

        private void throughTails(int n, boolean lie, boolean mayLack, int stop) {
            int heading = n - TAIL;
            long end = endOf(heading, 1);
            int tail = at(firstTail, slotOf(end));
            for (int tries = 0; tries < TAILS && tail >= 0 && found <= stop; tries++) {
                if (placeAt(ends, tail) == end) {
                    layAt(heading, TAIL, tail);
                    countRing(n, lie, lacks(n, mayLack));
                }
                tail = at(nextTail, tail);
            }
        }

        private void countRing(int n, boolean lie, int lacking) {
            if (lacking < 0 || !standsForAll(n)) {
                return;
            }
            if (lie) {
                walk.follow(letters, n);
                if (layout.firstOff(walk) != NONE || walk.firstTouch() != NONE) {
                    return;
                }
            }
            if (lacking == 0) {
                found++;
            } else {
                int kind = layout.lackedKind(letters, n);
                put(gains, kind, at(gains, kind) + 1);
            }
        }

        /** How many of the first n pieces THE BOX lacks, -1 if these are more than may be. */
        private int lacks(int n, boolean mayLack) {
            int lacking = layout.lacking(letters, n);
            return lacking > (mayLack ? 1 : 0) ? -1 : lacking;
        }

        /** Lays the n digits of a code as letters from a piece on. */
        private void layAt(int from, int n, int code) {
            int rest = code;
            for (int i = from + n - 1; i >= from; i--) {
                put(letters, i, rest % LETTERS);
                rest /= LETTERS;
            }
        }

        /** Whether no piece, nor its mirrored one, would better begin the ring. */
        private boolean isFirstSoFar(int n) {
            int first = at(letters, 0);
            for (int i = 0; i < n; i++) {
                int letter = at(letters, i);
                if (letter < first || at(MIRROR_OF, letter) < first) {
                    return false;
                }
            }
            return true;
        }

        /** Whether the ring is the first by letters of its alike ones. */
        private boolean standsForAll(int n) {
            for (int from = 0; from < n; from++) {
                if (isBefore(n, from, 1, false) || isBefore(n, from, 1, true)
                        || isBefore(n, from, -1, false) || isBefore(n, from, -1, true)) {
                    return false;
                }
            }
            return true;
        }

        /** Whether the ring told from a piece on, ahead or back, is before the ring by letters. */
        private boolean isBefore(int n, int from, int way, boolean mirrored) {
            int place = from;
            for (int i = 0; i < n; i++) {
                int other = at(letters, place);
                int difference = (mirrored ? at(MIRROR_OF, other) : other) - at(letters, i);
                if (difference != 0) {
                    return difference < 0;
                }
                place += way;
                place = place < 0 ? n - 1 : place >= n ? 0 : place;
            }
            return false;
        }

        private void gather() {
            if (gathered) {
                return;
            }
            Arrays.fill(firstTail, -1);
            // From the last tail on, each put ahead of the others: so they come by letters.
            for (int tail = TAILS - 1; tail >= 0; tail--) {
                // Told backwards, the tail leads to where the head ends, but turned about 0, 0.
                int rest = tail;
                for (int i = 0; i < TAIL; i++) {
                    put(letters, i, at(MIRROR_OF, rest % LETTERS));
                    rest /= LETTERS;
                }
                long end = endOf(TAIL, -1);
                int slot = slotOf(end);
                putPlace(ends, tail, end);
                put(nextTail, tail, at(firstTail, slot));
                put(firstTail, slot, tail);
            }
            gathered = true;
        }

        /** Place (or the one turned about 0, 0: way -1) and direction behind n letters, in one. */
        private long endOf(int n, int way) {
            long place = 0;
            int direction = 0;
            for (int i = 0; i < n; i++) {
                int letter = at(letters, i);
                place += moves.step(direction, letter);
                direction = Moves.turned(direction, letter);
            }
            return way * place * DIRECTIONS + direction;
        }

        private static int slotOf(long end) {
            long mixed = end * 2654435761L;
            return (int) (mixed >>> 40) & (SLOTS - 1);
        }
    }

    /** Rows laid piece by piece: those that nearly close, and those of a photograph. */
    private static final class Trial {
        private final Layout layout;
        private final Moves moves;
        private final int[] left = new int[KINDS];
        private final int[] letters = new int[MOST_RING];
        final int[] best = new int[MOST_RING];
        private boolean found;
        private long bestWhole;
        private long bestRoot;

        Trial(Layout layout, Moves moves) {
            this.layout = layout;
            this.moves = moves;
        }

        boolean findsNearest(int n) {
            copyAll(layout.many, left);
            found = false;
            layNear(this, 0, Math.min(n, MOST_NEAR), 0L, 0, false);
            return found;
        }

        /** How many rows have these turns and close. */
        int rowsOf(int[] turns, int n) {
            int sum = 0;
            for (int i = 0; i < n; i++) {
                sum += at(turns, i);
            }
            if (n < 1 || sum % DIRECTIONS != 0) {
                return 0;
            }
            copyAll(layout.many, left);
            return layTurns(this, 0, Math.min(n, MOST_TURNS), 0L, 0, turns);
        }

        /**
         * Lays piece i of n and all behind it. A row's mirrored one has the same gap: so the first
         * bend is one to the left, which comes first by letters.
         */
        private static void layNear(Trial trial, int i, int n, long place, int direction, boolean bent) {
            int back = Math.min(direction, DIRECTIONS - direction);
            if (i >= n || back > SHARPEST * (n - i)) {
                return;
            }
            for (int letter = 0; letter < LETTERS; letter++) {
                int kind = at(KIND_OF, letter);
                int turn = at(TURN_OF, letter);
                if (at(trial.left, kind) > 0 && (bent || turn >= 0)) {
                    long there = place + trial.moves.step(direction, letter);
                    int heading = Moves.turned(direction, letter);
                    put(trial.letters, i, letter);
                    if (i + 1 < n) {
                        put(trial.left, kind, at(trial.left, kind) - 1);
                        layNear(trial, i + 1, n, there, heading, bent || turn != 0);
                        put(trial.left, kind, at(trial.left, kind) + 1);
                    } else if (heading == 0 && there != 0) {
                        trial.keepIfNearer(there);
                    }
                }
            }
        }

        private void keepIfNearer(long end) {
            long whole = Numbers.squareWhole(end);
            long root = Numbers.squareRoot(end);
            if (!found || Numbers.signOf(whole - bestWhole, root - bestRoot) < 0) {
                found = true;
                bestWhole = whole;
                bestRoot = root;
                copyAll(letters, best);
            }
        }

        /** Lays piece i of n and all behind it by their turns: how many rows close. */
        private static int layTurns(Trial trial, int i, int n, long place, int direction, int[] turns) {
            if (i >= n) {
                return place == 0 && direction == 0 ? 1 : 0;
            }
            int rows = 0;
            for (int letter = 0; letter < LETTERS; letter++) {
                int kind = at(KIND_OF, letter);
                if (at(TURN_OF, letter) == at(turns, i) && at(trial.left, kind) > 0) {
                    long there = place + trial.moves.step(direction, letter);
                    put(trial.left, kind, at(trial.left, kind) - 1);
                    rows += layTurns(trial, i + 1, n, there, Moves.turned(direction, letter), turns);
                    put(trial.left, kind, at(trial.left, kind) + 1);
                }
            }
            return rows;
        }
    }
}
