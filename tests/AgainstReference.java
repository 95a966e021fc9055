import java.math.BigDecimal;
import java.math.MathContext;
import java.util.ArrayList;
import java.util.Arrays;
import java.util.List;
import java.util.TreeSet;

/**
 * Plays long fixed runs of calls on TrackBox and on a plain model of the document, which lays rows
 * along the eight directions (four whole numbers a place, no roots) and tries every row there is,
 * and compares every answer and, at times, all that can be asked.
 */
public final class AgainstReference {
    private static int wrong = 0;

    public static void main(String[] args) {
        for (int run = 0; run < 240; run++) {
            new Play(run).go();
        }
        System.out.println(wrong == 0 ? "all runs agree" : wrong + " answers differ");
        if (wrong != 0) {
            System.exit(1);
        }
    }

    /** A run of calls, chosen by a fixed sequence of numbers. */
    private static final class Play {
        private final int run;
        private long seed;
        private int calls;
        private final TrackBox real = new TrackBox();
        private final Model model = new Model();
        private final StringBuilder told = new StringBuilder();
        private boolean failed;

        Play(int run) {
            this.run = run;
            this.seed = 88172645463325252L + 7919L * run;
        }

        int below(int n) {
            seed = seed * 6364136223846793005L + 1442695040888963407L;
            return (int) Math.floorMod(seed >>> 33, (long) n);
        }

        int from(int least, int greatest) {
            return least + below(greatest - least + 1);
        }

        void same(String call, long got, long want) {
            calls++;
            told.append(call).append(" -> ").append(got).append('\n');
            if (got != want && !failed) {
                failed = true;
                wrong++;
                System.out.println("run " + run + ", due is " + want + ":\n" + told);
            }
        }

        void go() {
            if (run % 9 != 0) {
                fillBox();
            }
            int steps = run % 10 == 0 ? 120 : 40;
            for (int i = 0; i < steps && calls < 480 && !failed; i++) {
                step();
            }
            if (calls < 440) {
                askRow();
            }
            for (int what = -1; what <= 18; what++) {
                same("count(" + what + ")", real.count(what), model.count(what));
            }
        }

        /** Mostly few pieces of many kinds, or bends for a ring and few others, often of one size. */
        private void fillBox() {
            boolean bends = run % 3 != 0;
            int most = run == 7 ? 9 : bends ? 1 : 2;
            int sizes = run % 2 == 0 ? 2 : 6;
            for (int kind = 0; kind < 7; kind++) {
                boolean many = bends && (kind == 5 || kind == 3 + run / 3 % 2);
                box(kind, many ? from(3, run == 7 ? 9 : 4) : from(0, most));
                if (run % 4 != 0) {
                    size(kind, from(1, sizes));
                }
            }
        }

        private void box(int kind, int many) {
            same("box(" + kind + ", " + many + ")", real.box(kind, many), model.box(kind, many));
        }

        private void size(int kind, int v) {
            same("size(" + kind + ", " + v + ")", real.size(kind, v), model.size(kind, v));
        }

        private void feed(int n, long bytes) {
            same("feed(" + n + ", " + bytes + "L)", real.feed(n, bytes), model.feed(n, bytes));
        }

        private void row() {
            same("row()", real.row(), model.row());
        }

        private void step() {
            int op = below(30);
            switch (op) {
                case 0: case 1: case 2: case 3: tellRow(); break;
                case 4: feed(from(-1, 10), seed); break;
                case 5: row(); break;
                case 6: case 7: box(from(-1, 7), below(8) == 0 ? from(-1, 10) : from(0, 2)); break;
                case 8: size(from(-1, 7), below(4) == 0 ? from(-1, 22) : from(1, 5)); break;
                case 9: askPlaces(); break;
                case 10: tellTable(); break;
                case 11: tellLeg(); break;
                case 12: case 13: askRow(); break;
                case 14: case 15: askRings(); break;
                case 16: case 17: askRing(); break;
                case 18: boolean l = below(2) == 0; same("most(" + l + ")", real.most(l), model.most(l)); break;
                case 19: case 20: askOpens(); break;
                case 21: case 22: askNearest(); break;
                case 23: case 24: case 25: askPhoto(); break;
                case 26: same("image()", real.image(), model.image()); break;
                case 27: same("on()", real.on(), model.on()); break;
                case 28: askNumbers(); break;
                default: tellTurn(from(-3, 3)); break;
            }
        }

        private void tellRow() {
            int n = below(3) == 0 ? from(1, 24) : from(1, 9);
            int letters = below(2) == 0 ? 10 : from(1, 10);
            int start = below(10);
            StringBuilder text = new StringBuilder();
            for (int i = 0; i < n; i++) {
                text.append("abclmrsqtx".charAt((start + below(letters)) % 10));
            }
            String words = text.toString();
            if (below(3) == 0) {
                String[] known = {"qqqq", "tttt", "llllllll", "xqqqxttt", "aqqaqq", "qllqll", "xtttxqqqx", "qqqqa",
                    "xqqqxqqqx", "xxxx", "cqqqcqqq", "rrrrrrrr", "xrrrrrrxllllll", "qqqqqqqq"};
                words = known[below(known.length)];
            }
            if (below(8) == 0) {
                int at = below(words.length());
                words = words.substring(0, at) + (char) from(0, 255) + words.substring(at + 1);
            }
            for (int i = 0; i < words.length(); i += 8) {
                int m = Math.min(8, words.length() - i);
                long bytes = m == 8 ? 0L : (-1L << (8 * m)) & seed;
                for (int k = 0; k < m; k++) {
                    bytes |= ((long) words.charAt(i + k)) << (8 * k);
                }
                feed(m, bytes);
            }
            row();
        }

        private void askPlaces() {
            int i = from(-1, model.row.length() + 1);
            for (int what = -1; what <= 5; what++) {
                same("joint(" + i + ", " + what + ")", real.joint(i, what), model.joint(i, what));
            }
        }

        private void tellTable() {
            int side = from(-1, 4);
            int v = below(4) == 0 ? from(-402, 402) : side == 0 || side == 2 ? from(-50, 3) : from(-3, 50);
            same("table(" + side + ", " + v + ")", real.table(side, v), model.table(side, v));
        }

        private void tellLeg() {
            int x = below(6) == 0 ? from(-402, 402) : from(-5, 5) * 2;
            int y = below(6) == 0 ? from(-402, 402) : from(-5, 5) * 2;
            if (below(2) == 0 && model.row.length() > 0) {
                int i = below(model.row.length() + 1);
                x = model.joint(i, 0);
                y = model.joint(i, 2);
            }
            same("leg(" + x + ", " + y + ")", real.leg(x, y), model.leg(x, y));
        }

        private void askRow() {
            same("closes()", real.closes(), model.closes());
            same("uses()", real.uses(), model.uses());
            same("off()", real.off(), model.off());
            same("touches()", real.touches(), model.touches());
            same("lies()", real.lies(), model.lies());
            int i = from(-1, 25);
            same("piece(" + i + ")", real.piece(i), model.piece(i));
            int part = from(-1, 2);
            same("gap(" + part + ")", real.gap(part), model.gap(part));
            int whole = model.gapParts()[0] + from(-1, 1);
            int root = model.gapParts()[1] + from(-1, 1);
            same("nearer(" + whole + ", " + root + ")", real.nearer(whole, root), model.nearer(whole, root));
        }

        private void askNumbers() {
            int most = below(2) == 0 ? 10 : 1000002;
            int whole = from(-most, most);
            int root = below(2) == 0 ? from(-most, most) : (int) (-whole / Math.sqrt(2)) + from(-1, 1);
            same("sign(" + whole + ", " + root + ")", real.sign(whole, root), model.sign(whole, root));
            same("nearer(" + whole + ", " + root + ")", real.nearer(whole, root), model.nearer(whole, root));
        }

        private void askRings() {
            int n = below(4) == 0 ? from(0, 7) : from(4, 6);
            boolean lie = below(2) == 0;
            same("rings(" + n + ", " + lie + ")", real.rings(n, lie), model.rings(n, lie));
        }

        private void askRing() {
            int n = below(3) == 0 ? from(0, 7) : from(4, 6);
            boolean lie = below(2) == 0;
            int many = n < 1 || n > 6 ? 0 : model.all(n, lie).size();
            int i = from(-1, many);
            same("ring(" + n + ", " + lie + ", " + i + ")", real.ring(n, lie, i), model.ring(n, lie, i));
            askPieces();
        }

        private void askPieces() {
            int code = 0;
            int due = 0;
            for (int i = 0; i < 6; i++) {
                code = code * 20 + real.piece(i);
                due = due * 20 + model.piece(i);
            }
            same("piece(0) .. piece(5)", code, due);
            calls += 5;
        }

        private void askOpens() {
            int n = below(3) == 0 ? from(0, 7) : from(4, 6);
            boolean lie = below(2) == 0;
            same("opens(" + n + ", " + lie + ")", real.opens(n, lie), model.opens(n, lie));
        }

        private void askNearest() {
            int n = below(4) == 0 ? from(0, 6) : from(1, 5);
            same("nearest(" + n + ")", real.nearest(n), model.nearest(n));
            askPieces();
        }

        private void askPhoto() {
            int[][] known = {{2, 2, 2, 2}, {2, 1, 1, 2, 1, 1}, {0, 2, 2, 0, 2, 2}, {-2, -2, -2, -2}, {-1, -1, -2, -1, -1, -2},
                {0, 2, 2, 2, 2}, {0, -2, 0, -2, -2, -2}, {0, 0}, {1, -1}, {2, -2, 2, -2}, {1, 2, 1, 1, 2, 1}};
            if (below(3) > 0) {
                for (int v : known[below(known.length)]) {
                    tellTurn(v);
                }
            }
            same("photo()", real.photo(), model.photo());
        }

        private void tellTurn(int v) {
            same("turn(" + v + ")", real.turn(v), model.turn(v));
        }
    }

    /** The document, in its plainest form. Rows are texts of the letters A .. J for a b c l m r s q t x. */
    private static final class Model {
        private static final String TEXT = "abclmrsqtx";
        private static final String KIND = "0123434556";
        private static final String MIRROR = "ABCFGDEIHJ";
        private static final int[] TURN = {0, 0, 0, 1, 1, -1, -1, 2, -2, 0};
        int[] many = new int[7];
        int[] sizes = {4, 2, 1, 4, 6, 4, 4};
        int[] sides = {-400, 400, -400, 400};
        List<int[]> legs = new ArrayList<>();
        String row = "";
        final List<Integer> tape = new ArrayList<>();
        List<Integer> turns = new ArrayList<>();
        final int[] refusals = new int[17];
        Model then;

        int refuse(int code) {
            refusals[10 - code]++;
            return code;
        }

        int far(int code) {
            return 1000000000 - refuse(code);
        }

        int feed(int n, long bytes) {
            if (n < 1) return refuse(-4);
            if (n > 8 || tape.size() + n > 24) return refuse(-6);
            long rest = bytes;
            for (int i = 0; i < n; i++) {
                tape.add((int) (rest & 255));
                rest >>= 8;
            }
            return tape.size();
        }

        int row() {
            StringBuilder text = new StringBuilder();
            List<Integer> read = new ArrayList<>(tape);
            tape.clear();
            for (int i = 0; i < read.size(); i++) {
                int letter = TEXT.indexOf(read.get(i));
                if (letter < 0) return -20 - i;
                text.append((char) ('A' + letter));
            }
            row = text.toString();
            return row.length();
        }

        int box(int kind, int v) {
            if (kind < 0 || kind > 6) return refuse(-1);
            if (v < 0) return refuse(-4);
            if (v > 9) return refuse(-6);
            int was = many[kind];
            many[kind] = v;
            return was;
        }

        int size(int kind, int v) {
            if (kind < 0 || kind > 6) return refuse(-1);
            if (v < 1) return refuse(-4);
            if (v > 20) return refuse(-6);
            int was = sizes[kind];
            sizes[kind] = v;
            return was;
        }

        int piece(int i) {
            return i < 0 || i >= row.length() ? -9 : row.charAt(i) - 'A';
        }

        /** Along directions 0 .. 3, and the direction. */
        int[][] joints(String r) {
            int[][] all = new int[r.length() + 1][5];
            for (int i = 0; i < r.length(); i++) {
                all[i + 1] = all[i].clone();
                lead(all[i + 1], r.charAt(i) - 'A');
            }
            return all;
        }

        private void lead(int[] at, int letter) {
            int length = 2 * sizes[KIND.charAt(letter) - '0'];
            int turn = TURN[letter];
            int to = at[4] + turn;
            if (turn == 0) {
                go(at, at[4], length);
            } else if (turn > 0) {
                // From the beginning to the middle of the ring, and out again.
                go(at, at[4] + 2, length);
                go(at, to - 2, length);
            } else {
                go(at, at[4] - 2, length);
                go(at, to + 2, length);
            }
            at[4] = Math.floorMod(to, 8);
        }

        private static void go(int[] at, int direction, int length) {
            int d = Math.floorMod(direction, 8);
            at[d % 4] += d < 4 ? length : -length;
        }

        /** x whole, x root, y whole, y root, direction. */
        static int[] parts(int[] at) {
            return new int[] {at[0], (at[1] - at[3]) / 2, at[2], (at[1] + at[3]) / 2, at[4]};
        }

        int joint(int i, int what) {
            if (i < 0 || i > row.length()) return far(-1);
            if (what < 0 || what > 4) return far(-2);
            return parts(joints(row)[i])[what];
        }

        private int[] end(String r) {
            int[] at = new int[5];
            for (int i = 0; i < r.length(); i++) lead(at, r.charAt(i) - 'A');
            return at;
        }

        boolean closed(String r) {
            return r.length() > 0 && Arrays.equals(end(r), new int[5]);
        }

        int closes() {
            return closed(row) ? 1 : 0;
        }

        boolean used(String r, int[] there) {
            int[] left = there.clone();
            for (int i = 0; i < r.length(); i++) {
                if (--left[KIND.charAt(r.charAt(i) - 'A') - '0'] < 0) return false;
            }
            return true;
        }

        int uses() {
            return used(row, many) ? 1 : 0;
        }

        private static final BigDecimal ROOT = new BigDecimal(2).sqrt(new MathContext(60));

        static int exactSign(long whole, long root) {
            double about = whole + root * Math.sqrt(2);
            if (Math.abs(about) > 0.001) return about > 0 ? 1 : -1;
            return new BigDecimal(whole).add(new BigDecimal(root).multiply(ROOT)).signum();
        }

        int sign(int whole, int root) {
            if (Math.abs((long) whole) > 1000000 || Math.abs((long) root) > 1000000) return refuse(-3);
            return exactSign(whole, root);
        }

        int[] gapParts(String r) {
            int[] p = parts(end(r));
            return new int[] {p[0] * p[0] + 2 * p[1] * p[1] + p[2] * p[2] + 2 * p[3] * p[3], 2 * p[0] * p[1] + 2 * p[2] * p[3]};
        }

        int[] gapParts() {
            return gapParts(row);
        }

        int gap(int part) {
            return part < 0 || part > 1 ? far(-2) : gapParts()[part];
        }

        int nearer(int whole, int root) {
            if (whole < -1000000 || root < -1000000) return refuse(-4);
            if (whole > 1000000 || root > 1000000) return refuse(-6);
            return exactSign(gapParts()[0] - whole, gapParts()[1] - root) < 0 ? 1 : 0;
        }

        int table(int side, int v) {
            if (side < 0 || side > 3) return far(-2);
            if (v < -400) return far(-4);
            if (v > 400) return far(-6);
            int was = sides[side];
            sides[side] = v;
            return was;
        }

        int leg(int x, int y) {
            if (x < -400 || y < -400) return refuse(-4);
            if (x > 400 || y > 400 || legs.size() == 6) return refuse(-6);
            legs.add(new int[] {x, y});
            return legs.size();
        }

        int off(String r) {
            int[][] all = joints(r);
            for (int i = 0; i < all.length; i++) {
                int[] p = parts(all[i]);
                boolean bad = exactSign(p[0] - sides[0], p[1]) < 0 || exactSign(p[0] - sides[1], p[1]) > 0
                    || exactSign(p[2] - sides[2], p[3]) < 0 || exactSign(p[2] - sides[3], p[3]) > 0;
                for (int[] leg : legs) {
                    bad |= p[1] == 0 && p[3] == 0 && p[0] == leg[0] && p[2] == leg[1];
                }
                if (bad) return i;
            }
            return -9;
        }

        int touches(String r) {
            int[][] all = joints(r);
            for (int i = 1; i < all.length; i++) {
                for (int k = 0; k < i; k++) {
                    if (!Arrays.equals(Arrays.copyOf(all[i], 4), Arrays.copyOf(all[k], 4))) continue;
                    if (k == 0 && i == all.length - 1 && closed(r)) continue;
                    if (k > 0 && r.charAt(i - 1) == 'J' && r.charAt(k - 1) == 'J') continue;
                    return i;
                }
            }
            return -9;
        }

        boolean lying(String r) {
            return off(r) == -9 && touches(r) == -9;
        }

        int off() {
            return off(row);
        }

        int touches() {
            return touches(row);
        }

        int lies() {
            return lying(row) ? 1 : 0;
        }

        /** All rows of n that use no more than told and end in direction 0, by letters. */
        List<String> rows(int n, int[] there) {
            List<String> all = new ArrayList<>();
            grow("", 0, n, there.clone(), all);
            return all;
        }

        private void grow(String start, int turned, int n, int[] left, List<String> all) {
            if (start.length() == n) {
                if (turned % 8 == 0) all.add(start);
                return;
            }
            for (int letter = 0; letter < 10; letter++) {
                int kind = KIND.charAt(letter) - '0';
                boolean ends = start.length() + 1 < n || (turned + TURN[letter]) % 8 == 0;
                if (ends && left[kind] > 0) {
                    left[kind]--;
                    grow(start + (char) ('A' + letter), turned + TURN[letter], n, left, all);
                    left[kind]++;
                }
            }
        }

        static String mirrored(String r) {
            StringBuilder text = new StringBuilder();
            for (int i = 0; i < r.length(); i++) text.append(MIRROR.charAt(r.charAt(i) - 'A'));
            return text.toString();
        }

        static TreeSet<String> alike(String r) {
            TreeSet<String> all = new TreeSet<>();
            List<String> open = new ArrayList<>();
            open.add(r);
            while (!open.isEmpty()) {
                String s = open.remove(open.size() - 1);
                if (all.add(s)) {
                    open.add(s.substring(1) + s.charAt(0));
                    open.add(mirrored(s));
                    open.add(mirrored(new StringBuilder(s).reverse().toString()));
                }
            }
            return all;
        }

        TreeSet<String> all(int n, boolean lie, int[] there) {
            TreeSet<String> first = new TreeSet<>();
            for (String r : rows(n, there)) {
                if (closed(r)) {
                    String least = alike(r).first();
                    if (!lie || lying(least)) first.add(least);
                }
            }
            return first;
        }

        TreeSet<String> all(int n, boolean lie) {
            return all(n, lie, many);
        }

        int rings(int n, boolean lie) {
            if (n < 1) return refuse(-4);
            if (n > 6) return refuse(-6);
            return all(n, lie).size();
        }

        int ring(int n, boolean lie, int i) {
            if (n < 1) return refuse(-4);
            if (n > 6) return refuse(-6);
            List<String> all = new ArrayList<>(all(n, lie));
            if (i < 0 || i >= all.size()) return -9;
            row = all.get(i);
            return 1;
        }

        int most(boolean lie) {
            int best = -9;
            for (int n = 1; n <= 6; n++) {
                if (!all(n, lie).isEmpty()) best = n;
            }
            return best;
        }

        int opens(int n, boolean lie) {
            if (n < 1) return refuse(-4);
            if (n > 6) return refuse(-6);
            int now = all(n, lie).size();
            int best = -9;
            for (int kind = 0; kind < 7; kind++) {
                if (many[kind] == 9) continue;
                int[] there = many.clone();
                there[kind]++;
                int more = all(n, lie, there).size();
                if (more > now) {
                    now = more;
                    best = kind;
                }
            }
            return best;
        }

        int nearest(int n) {
            if (n < 1) return refuse(-4);
            if (n > 5) return refuse(-6);
            String best = null;
            for (String r : rows(n, many)) {
                if (closed(r)) continue;
                if (best == null || exactSign(gapParts(r)[0] - gapParts(best)[0], gapParts(r)[1] - gapParts(best)[1]) < 0) best = r;
            }
            if (best == null) return -9;
            row = best;
            return 1;
        }

        int turn(int v) {
            if (v < -2) return refuse(-4);
            if (v > 2 || turns.size() == 6) return refuse(-6);
            turns.add(v);
            return turns.size();
        }

        int photo() {
            List<Integer> told = turns;
            turns = new ArrayList<>();
            return told.isEmpty() ? 0 : shown("", told);
        }

        private int shown(String start, List<Integer> told) {
            if (start.length() == told.size()) return closed(start) ? 1 : 0;
            int sum = 0;
            for (char c = 'A'; c <= 'J'; c++) {
                if (TURN[c - 'A'] == told.get(start.length()) && used(start + c, many)) sum += shown(start + c, told);
            }
            return sum;
        }

        int image() {
            then = new Model();
            then.takeFrom(this);
            return row.length();
        }

        int on() {
            if (then == null) return refuse(-3);
            takeFrom(then);
            return row.length();
        }

        private void takeFrom(Model other) {
            many = other.many.clone();
            sizes = other.sizes.clone();
            sides = other.sides.clone();
            legs = new ArrayList<>(other.legs);
            row = other.row;
        }

        int count(int what) {
            if (what == 0) return row.length();
            if (what == 1) return Arrays.stream(many).sum();
            if (what == 2) return legs.size();
            if (what == 3) return tape.size();
            if (what == 4) return turns.size();
            return what >= 11 && what <= 16 ? refusals[what] : -9;
        }
    }
}
