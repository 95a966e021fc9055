/** A test of each promise of the document: ordinary inputs, the edges that it names, wrong inputs. */
public final class Promises {
    private static final int[] SIZES = {4, 2, 1, 4, 6, 4, 4};
    private static final String LETTERS = "abclmrsqtx";
    private static int wrong = 0;

    public static void main(String[] args) {
        newObject();
        feed();
        row();
        box();
        size();
        piece();
        joint();
        closes();
        uses();
        sign();
        gap();
        nearer();
        table();
        leg();
        off();
        touches();
        lies();
        rings();
        ringsAlike();
        ring();
        most();
        opens();
        nearest();
        turn();
        photo();
        image();
        on();
        count();
        System.out.println(wrong == 0 ? "all promises hold" : wrong + " answers are not as due");
        if (wrong != 0) {
            System.exit(1);
        }
    }

    private static void due(String call, int got, int want) {
        if (got != want) {
            wrong++;
            System.out.println(call + " answered " + got + ", due is " + want);
        }
    }

    /** Feeds a text; what is left of each long above its bytes does not count. */
    private static int feed(TrackBox x, String text) {
        int fed = 0;
        for (int i = 0; i < text.length(); i += 8) {
            int n = Math.min(8, text.length() - i);
            long bytes = n == 8 ? 0L : -1L << (8 * n);
            for (int k = 0; k < n; k++) {
                bytes |= ((long) text.charAt(i + k)) << (8 * k);
            }
            fed = x.feed(n, bytes);
        }
        return fed;
    }

    private static int lay(TrackBox x, String text) {
        feed(x, text);
        return x.row();
    }

    private static TrackBox laid(String text) {
        TrackBox x = new TrackBox();
        due("row() of " + text, lay(x, text), text.length());
        return x;
    }

    /** A new object with so many pieces of each kind. */
    private static TrackBox boxed(int... many) {
        TrackBox x = new TrackBox();
        for (int kind = 0; kind < many.length; kind++) {
            x.box(kind, many[kind]);
        }
        return x;
    }

    private static void dueRow(String call, TrackBox x, String text) {
        due(call + ": pieces", x.count(0), text.length());
        for (int i = 0; i < text.length(); i++) {
            due(call + ": piece(" + i + ")", x.piece(i), LETTERS.indexOf(text.charAt(i)));
        }
    }

    private static void dueJoint(TrackBox x, int i, int... parts) {
        for (int what = 0; what < parts.length; what++) {
            due("joint(" + i + ", " + what + ")", x.joint(i, what), parts[what]);
        }
    }

    /** Refusals -1 .. -6 as many as told, in their order. */
    private static void dueRefusals(String call, TrackBox x, int... many) {
        for (int i = 0; i < many.length; i++) {
            due(call + ": count(" + (11 + i) + ")", x.count(11 + i), many[i]);
        }
    }

    private static void newObject() {
        TrackBox x = new TrackBox();
        for (int what = 0; what <= 4; what++) {
            due("new: count(" + what + ")", x.count(what), 0);
        }
        dueRefusals("new", x, 0, 0, 0, 0, 0, 0);
        for (int kind = 0; kind < 7; kind++) {
            due("new: box(" + kind + ", 0)", x.box(kind, 0), 0);
            due("new: size(" + kind + ", 1)", x.size(kind, 1), SIZES[kind]);
        }
        due("new: on()", x.on(), -3);
        due("new: closes()", x.closes(), 0);
        due("new: uses()", x.uses(), 1);
        due("new: lies()", x.lies(), 1);
        dueJoint(x, 0, 0, 0, 0, 0, 0);
        for (int side = 0; side < 4; side++) {
            due("new: table(" + side + ", 0)", x.table(side, 0), side % 2 == 0 ? -400 : 400);
        }
    }

    private static void feed() {
        TrackBox x = new TrackBox();
        due("feed(0, 0)", x.feed(0, 0L), -4);
        due("feed(least, 0)", x.feed(Integer.MIN_VALUE, 0L), -4);
        due("feed(9, 0)", x.feed(9, 0L), -6);
        due("feed(greatest, 0)", x.feed(Integer.MAX_VALUE, 0L), -6);
        due("feed(2, ba and more)", x.feed(2, 0x7878786162L), 2);
        due("feed(8, q)", x.feed(8, 0x7171717171717171L), 10);
        due("feed(8, t)", x.feed(8, 0x7474747474747474L), 18);
        due("feed(7, x)", x.feed(7, 0x78787878787878L), -6);
        due("feed(6, x)", x.feed(6, 0x787878787878L), 24);
        due("feed(1, a) above 24", x.feed(1, 97L), -6);
        due("count(3)", x.count(3), 24);
        dueRefusals("feed", x, 0, 0, 0, 2, 0, 4);
        due("row() of 24", x.row(), 24);
        dueRow("feed", x, "baqqqqqqqqttttttttxxxxxx");
    }

    private static void row() {
        TrackBox x = laid("abclmrsqtx");
        dueRow("row", x, "abclmrsqtx");
        due("row() of d", lay(x, "d"), -20);
        due("row() of abz", lay(x, "abz1"), -22);
        dueRow("row with a FAULT", x, "abclmrsqtx");
        due("count(3) behind a FAULT", x.count(3), 0);
        due("row() with a FAULT at its end", lay(x, "xxxxxxxxxxxxxxxxxxxxxxxA"), -43);
        x.feed(1, 0L);
        due("row() of byte 0", x.row(), -20);
        x.feed(2, 0xE161L);
        due("row() of byte 225", x.row(), -21);
        dueRefusals("row", x, 0, 0, 0, 0, 0, 0);
        due("row() of the next text", lay(x, "qt"), 2);
        dueRow("row", x, "qt");
        due("row() of none", x.row(), 0);
        due("count(0) of none", x.count(0), 0);
        due("piece(0) of none", x.piece(0), -9);
    }

    private static void box() {
        TrackBox x = new TrackBox();
        due("box(-1, 0)", x.box(-1, 0), -1);
        due("box(7, -1)", x.box(7, -1), -1);
        due("box(6, -1)", x.box(6, -1), -4);
        due("box(6, 10)", x.box(6, 10), -6);
        due("box(6, 9)", x.box(6, 9), 0);
        due("box(6, 10)", x.box(6, 10), -6);
        due("box(6, 0)", x.box(6, 0), 9);
        due("box(0, 3)", x.box(0, 3), 0);
        due("box(0, 3)", x.box(0, 3), 3);
        dueRefusals("box", x, 2, 0, 0, 1, 0, 2);
    }

    private static void size() {
        TrackBox x = laid("abclmqx");
        due("size(-1, 1)", x.size(-1, 1), -1);
        due("size(7, 0)", x.size(7, 0), -1);
        due("size(0, 0)", x.size(0, 0), -4);
        due("size(0, 21)", x.size(0, 21), -6);
        due("joint(1, 0)", x.joint(1, 0), 8);
        due("size(0, 20)", x.size(0, 20), 4);
        due("joint(1, 0) of the new size", x.joint(1, 0), 40);
        due("size(0, 1)", x.size(0, 1), 20);
        due("joint(1, 0) of the new size", x.joint(1, 0), 2);
        due("size(0, 21)", x.size(0, 21), -6);
        due("size(0, 1)", x.size(0, 1), 1);
        dueRefusals("size", x, 2, 0, 0, 1, 0, 2);
        TrackBox y = boxed(0, 0, 0, 0, 0, 2, 0);
        y.box(3, 4);
        due("rings(6, false)", y.rings(6, false), 3);
        y.size(3, 5);
        due("rings(6, false) with longer bends", y.rings(6, false), 1);
        y.box(4, 2);
        due("rings(6, false) with others", y.rings(6, false), 2);
        y.size(4, 5);
        due("rings(6, false) with others of that size", y.rings(6, false), 5);
    }

    private static void piece() {
        TrackBox x = laid("xtqsrmlcba");
        dueRow("piece", x, "xtqsrmlcba");
        due("piece(10)", x.piece(10), -9);
        due("piece(-1)", x.piece(-1), -9);
        due("piece(24)", x.piece(24), -9);
        due("piece(greatest)", x.piece(Integer.MAX_VALUE), -9);
        due("piece(least)", x.piece(Integer.MIN_VALUE), -9);
        dueRefusals("piece", x, 0, 0, 0, 0, 0, 0);
    }

    private static void joint() {
        TrackBox x = laid("lalalalalalalala");
        dueJoint(x, 0, 0, 0, 0, 0, 0);
        dueJoint(x, 1, 0, 4, 8, -4, 1);
        dueJoint(x, 2, 0, 8, 8, 0, 1);
        dueJoint(x, 3, 8, 4, 8, 4, 2);
        dueJoint(x, 4, 8, 4, 16, 4, 2);
        dueJoint(x, 6, 0, 4, 16, 12, 3);
        dueJoint(x, 8, -8, 0, 24, 8, 4);
        dueJoint(x, 16, 0, 0, 0, 0, 0);
        due("joint(17, 0)", x.joint(17, 0), 1000000001);
        due("joint(-1, 5)", x.joint(-1, 5), 1000000001);
        due("joint(16, 5)", x.joint(16, 5), 1000000002);
        due("joint(0, -1)", x.joint(0, -1), 1000000002);
        dueRefusals("joint", x, 2, 2, 0, 0, 0, 0);
        TrackBox y = laid("smtqrbcx");
        dueJoint(y, 1, 0, 6, -12, 6, 7);
        dueJoint(y, 2, 0, 12, -24, 12, 0);
        dueJoint(y, 3, 8, 12, -32, 12, 6);
        dueJoint(y, 4, 16, 12, -40, 12, 0);
        dueJoint(y, 5, 16, 16, -48, 16, 7);
        dueJoint(y, 6, 16, 18, -48, 14, 7);
        dueJoint(y, 7, 16, 19, -48, 13, 7);
        dueJoint(y, 8, 16, 23, -48, 9, 7);
        TrackBox z = laid("lqlt");
        dueJoint(z, 2, 0, 4, 8, 4, 3);
        dueJoint(z, 4, -8, 0, 24, 0, 2);
    }

    private static void closes() {
        due("closes() of none", new TrackBox().closes(), 0);
        due("closes() of tttt", laid("tttt").closes(), 1);
        due("closes() of eight r", laid("rrrrrrrr").closes(), 1);
        due("closes() of qqllqq", laid("qqllqq").closes(), 0);
        due("closes() of qllqll", laid("qllqll").closes(), 1);
        due("closes() of qqqqa", laid("qqqqa").closes(), 0);
        due("closes() of xqqqx, home in another direction", laid("xqqqx").closes(), 0);
        due("closes() of aqqbqqb", laid("aqqbqqb").closes(), 0);
        due("closes() of aqqbqq", laid("aqqbqq").closes(), 0);
        due("closes() of aqqbbqq", laid("aqqbbqq").closes(), 1);
    }

    private static void uses() {
        TrackBox x = boxed(1, 0, 0, 2, 0, 1, 0);
        due("uses() of none", x.uses(), 1);
        lay(x, "alrq");
        due("uses() of alrq", x.uses(), 1);
        lay(x, "lrl");
        due("uses() of lrl", x.uses(), 0);
        lay(x, "qt");
        due("uses() of qt", x.uses(), 0);
        lay(x, "x");
        due("uses() of x", x.uses(), 0);
        x.box(6, 1);
        due("uses() of x, 1", x.uses(), 1);
        lay(x, "b");
        due("uses() of b", x.uses(), 0);
        lay(x, "ms");
        x.box(4, 1);
        due("uses() of ms, 1", x.uses(), 0);
        x.box(4, 2);
        due("uses() of ms, 2", x.uses(), 1);
    }

    private static void sign() {
        TrackBox x = new TrackBox();
        int[][] above = {{1, 0}, {0, 1}, {1, 1}, {3, -2}, {-7, 5}, {1000000, -707106}, {-1000000, 707107},
            {1000000, 1000000}, {-665857 + 1, 470832}, {-1, 1}, {2, -1}, {-141421, 100000}, {665857, -470832}};
        for (int[] n : above) {
            due("sign(" + n[0] + ", " + n[1] + ")", x.sign(n[0], n[1]), 1);
            due("sign(" + -n[0] + ", " + -n[1] + ")", x.sign(-n[0], -n[1]), -1);
        }
        due("sign(0, 0)", x.sign(0, 0), 0);
        due("sign(1000001, 0)", x.sign(1000001, 0), -3);
        due("sign(-1000001, 0)", x.sign(-1000001, 0), -3);
        due("sign(0, 1000001)", x.sign(0, 1000001), -3);
        due("sign(0, -1000001)", x.sign(0, -1000001), -3);
        due("sign(least, least)", x.sign(Integer.MIN_VALUE, Integer.MIN_VALUE), -3);
        dueRefusals("sign", x, 0, 0, 5, 0, 0, 0);
    }

    private static void gap() {
        TrackBox x = laid("aqq");
        due("gap(0) of aqq", x.gap(0), 320);
        due("gap(1) of aqq", x.gap(1), 0);
        due("gap(-1)", x.gap(-1), 1000000002);
        due("gap(2)", x.gap(2), 1000000002);
        dueRefusals("gap", x, 0, 2, 0, 0, 0, 0);
        lay(x, "l");
        due("gap(0) of l", x.gap(0), 128);
        due("gap(1) of l", x.gap(1), -64);
        lay(x, "la");
        due("gap(0) of la", x.gap(0), 192);
        due("gap(1) of la", x.gap(1), 0);
        lay(x, "tttt");
        due("gap(0) of tttt", x.gap(0), 0);
        x.size(0, 20);
        lay(x, "aaaaaaaaaaaaaaaaaaaaaaaa");
        due("gap(0) of the longest", x.gap(0), 921600);
        x.size(5, 20);
        lay(x, "lqtqtqtqtqtqtqtqtqtqtqtq");
        due("gap(0) of a long slant", x.gap(0), 1678208);
        due("gap(1) of a long slant", x.gap(1), 14656);
    }

    private static void nearer() {
        TrackBox x = laid("l");
        due("nearer(128, -64)", x.nearer(128, -64), 0);
        due("nearer(128, -63)", x.nearer(128, -63), 1);
        due("nearer(129, -64)", x.nearer(129, -64), 1);
        due("nearer(37, 0)", x.nearer(37, 0), 0);
        due("nearer(38, 0)", x.nearer(38, 0), 1);
        due("nearer(0, 27)", x.nearer(0, 27), 1);
        due("nearer(0, 26)", x.nearer(0, 26), 0);
        due("nearer(1000000, -1000000)", x.nearer(1000000, -1000000), 0);
        due("nearer(-1000000, 1000000)", x.nearer(-1000000, 1000000), 1);
        due("nearer(-1000001, 1000001)", x.nearer(-1000001, 1000001), -4);
        due("nearer(1000001, -1000001)", x.nearer(1000001, -1000001), -4);
        due("nearer(1000001, 0)", x.nearer(1000001, 0), -6);
        due("nearer(0, 1000001)", x.nearer(0, 1000001), -6);
        dueRefusals("nearer", x, 0, 0, 0, 2, 0, 2);
        lay(x, "qqqq");
        due("nearer(0, 0) of a ring", x.nearer(0, 0), 0);
        due("nearer(3, -2) of a ring", x.nearer(3, -2), 1);
        due("nearer(-3, 2) of a ring", x.nearer(-3, 2), 0);
    }

    private static void table() {
        TrackBox x = new TrackBox();
        int faults = 1000000000;
        due("table(-1, 500)", x.table(-1, 500), faults + 2);
        due("table(4, 0)", x.table(4, 0), faults + 2);
        due("table(3, -401)", x.table(3, -401), faults + 4);
        due("table(3, 401)", x.table(3, 401), faults + 6);
        due("table(0, 400)", x.table(0, 400), -400);
        due("table(0, -400)", x.table(0, -400), 400);
        due("table(1, -400)", x.table(1, -400), 400);
        due("table(2, 5)", x.table(2, 5), -400);
        due("table(3, 6)", x.table(3, 6), 400);
        due("table(2, 7)", x.table(2, 7), 5);
        due("table(3, 401)", x.table(3, 401), faults + 6);
        due("table(3, 8)", x.table(3, 8), 6);
        due("table(1, 9)", x.table(1, 9), -400);
        dueRefusals("table", x, 0, 2, 0, 1, 0, 2);
    }

    private static void leg() {
        TrackBox x = new TrackBox();
        due("leg(-401, 401)", x.leg(-401, 401), -4);
        due("leg(401, -401)", x.leg(401, -401), -4);
        due("leg(401, 0)", x.leg(401, 0), -6);
        due("leg(0, 401)", x.leg(0, 401), -6);
        due("leg(400, -400)", x.leg(400, -400), 1);
        due("leg(-400, 400)", x.leg(-400, 400), 2);
        due("leg(400, -400) again", x.leg(400, -400), 3);
        due("count(2)", x.count(2), 3);
        due("off() elsewhere", x.off(), -9);
        x.leg(1, 1);
        x.leg(2, 2);
        due("leg(8, 0)", x.leg(8, 0), 6);
        due("leg(0, 0), a seventh", x.leg(0, 0), -6);
        due("leg(-401, 0), a seventh", x.leg(-401, 0), -4);
        due("count(2)", x.count(2), 6);
        due("off() with no leg at 0, 0", x.off(), -9);
        lay(x, "a");
        due("off() at the sixth leg", x.off(), 1);
        dueRefusals("leg", x, 0, 0, 0, 3, 0, 3);
    }

    private static void off() {
        TrackBox x = laid("aqq");
        due("off()", x.off(), -9);
        x.table(1, 16);
        due("off() at RIGHT", x.off(), -9);
        x.table(1, 15);
        due("off() over RIGHT", x.off(), 2);
        x.table(1, 7);
        due("off() over RIGHT sooner", x.off(), 1);
        x.table(1, 400);
        x.table(3, 15);
        due("off() over ABOVE", x.off(), 3);
        x.table(3, 16);
        due("off() at ABOVE", x.off(), -9);
        x.table(2, 0);
        due("off() at BELOW", x.off(), -9);
        x.table(2, 1);
        due("off() under BELOW", x.off(), 0);
        x.table(2, 0);
        x.table(0, 0);
        due("off() at LEFT", x.off(), -9);
        x.leg(16, 8);
        due("off() at a LEG", x.off(), 2);
        TrackBox y = laid("lll");
        y.table(1, 13);
        y.leg(5, 2);
        y.leg(8, 7);
        y.leg(0, 8);
        due("off() near LEGS", y.off(), -9);
        y.table(3, 13);
        due("off() over ABOVE by a root", y.off(), 3);
        y.table(3, 400);
        y.table(1, 5);
        due("off() at once", y.off(), 1);
        y.table(1, 6);
        due("off() a joint on", y.off(), 2);
        TrackBox z = laid("rrr");
        z.table(2, -3);
        due("off() under BELOW by a root", z.off(), 2);
        z.table(2, -13);
        due("off() under BELOW by more", z.off(), 3);
        z.table(0, 5);
        z.table(1, -5);
        due("off() with LEFT above RIGHT", z.off(), 0);
        due("off() of none on such a table", emptyOff(), 0);
    }

    private static int emptyOff() {
        TrackBox x = new TrackBox();
        x.table(0, 1);
        return x.off();
    }

    private static void touches() {
        due("touches() of none", new TrackBox().touches(), -9);
        due("touches() of qqqq", laid("qqqq").touches(), -9);
        due("touches() of qqqqq", laid("qqqqq").touches(), 4);
        due("touches() of aqqqa, home in another direction", laid("aqqqa").touches(), 5);
        due("touches() of bbaqqqa", laid("bbaqqqa").touches(), 7);
        due("touches() of two rings", laid("qqqqqqqq").touches(), 4);
        due("touches() of bxqqqx over a joint behind a crossing", laid("bxqqqx").touches(), 6);
        due("touches() of bxxqqqx", laid("bxxqqqx").touches(), -9);
        due("touches() of bxaqqqx", laid("bxaqqqx").touches(), -9);
        due("touches() of baxqqqx", laid("baxqqqx").touches(), 7);
        due("touches() of bxaqqqa", laid("bxaqqqa").touches(), 7);
        due("touches() of xqqqxttt", laid("xqqqxttt").touches(), 5);
        due("touches() of lllxrrr", laid("lllxrrr").touches(), -9);
        due("touches() of a ring that begins elsewhere", laid("aqqqqa").touches(), 5);
        due("touches() of an eight with a crossing", laid("xaqqqxattt").touches(), -9);
        due("touches() of an eight with one crossing piece", laid("xaqqqaxttt").touches(), 6);
        due("touches() of an eight that begins elsewhere", laid("cxaqqqxattta").touches(), 11);
    }

    private static void lies() {
        due("lies() of none", new TrackBox().lies(), 1);
        TrackBox x = laid("qqqq");
        due("lies()", x.lies(), 1);
        x.table(0, -8);
        due("lies() at LEFT", x.lies(), 1);
        x.table(0, -7);
        due("lies() over LEFT", x.lies(), 0);
        x.table(0, -8);
        lay(x, "qqqqq");
        due("lies() on itself", x.lies(), 0);
        lay(x, "qqqq");
        due("lies() again", x.lies(), 1);
        x.leg(0, 16);
        due("lies() at a LEG", x.lies(), 0);
    }

    private static void rings() {
        TrackBox x = new TrackBox();
        due("rings(0, false)", x.rings(0, false), -4);
        due("rings(7, false)", x.rings(7, false), -6);
        due("rings(6, false) of none", x.rings(6, false), 0);
        dueRefusals("rings", x, 0, 0, 0, 1, 0, 1);
        for (int kind = 0; kind < 7; kind++) {
            x.box(kind, 9);
            x.size(kind, 4);
        }
        int[] many = {0, 0, 0, 1, 6, 39};
        for (int n = 1; n <= 6; n++) {
            due("rings(" + n + ", false) of one size", x.rings(n, false), many[n - 1]);
        }
        TrackBox y = boxed(0, 0, 0, 0, 0, 3, 0);
        due("rings(4, false) of three", y.rings(4, false), 0);
        y.box(5, 4);
        due("rings(4, false) of four", y.rings(4, false), 1);
        due("rings(4, true)", y.rings(4, true), 1);
        y.table(3, 15);
        due("rings(4, false) on a small table", y.rings(4, false), 1);
        due("rings(4, true) on a small table", y.rings(4, true), 0);
        y.table(3, 16);
        due("rings(4, true) on a table as wide", y.rings(4, true), 1);
        y.leg(8, 8);
        due("rings(4, true) with a LEG", y.rings(4, true), 0);
    }

    /** Of alike rings only the first by letters is looked at: whether it lies tells for all. */
    private static void ringsAlike() {
        TrackBox x = boxed(1, 2, 0, 0, 0, 4, 0);
        x.size(1, 4);
        due("rings(6, false) of a and b", x.rings(6, false), 2);
        x.ring(6, false, 0);
        dueRow("aqqbqq", x, "aqqbqq");
        x.ring(6, false, 1);
        dueRow("bqqbqq", x, "bqqbqq");
        TrackBox y = boxed(2, 0, 0, 0, 0, 4, 0);
        y.table(3, 0);
        lay(y, "attatt");
        due("lies() of attatt", y.lies(), 1);
        due("rings(6, true) with only the mirrored one on the table", y.rings(6, true), 0);
        y.table(3, 400);
        y.leg(16, 8);
        due("rings(6, true) with a LEG in the way of the first", y.rings(6, true), 0);
        lay(y, "qqaqqa");
        due("lies() of qqaqqa", y.lies(), 1);
        due("rings(6, false)", y.rings(6, false), 1);
        TrackBox z = boxed(0, 0, 0, 1, 1, 4, 0);
        z.size(3, 3);
        z.size(4, 1);
        z.size(5, 1);
        due("rings(6, false) with a bend to the right", z.rings(6, false), 1);
        z.ring(6, false, 0);
        dueRow("a ring with a bend to the right", z, "lqqsqq");
        z.size(3, 1);
        z.size(4, 3);
        due("rings(6, false) with a bend to the left", z.rings(6, false), 1);
        z.ring(6, false, 0);
        dueRow("a ring with a bend to the left", z, "lttstt");
    }

    private static void ring() {
        TrackBox x = boxed(2, 0, 0, 8, 0, 4, 0);
        due("ring(0, false, -1)", x.ring(0, false, -1), -4);
        due("ring(7, false, -1)", x.ring(7, false, -1), -6);
        dueRefusals("ring", x, 0, 0, 0, 1, 0, 1);
        String[] rows = {"aqqaqq", "lllqlq", "llqllq", "lqlqlq"};
        lay(x, "xx");
        due("ring(6, false, -1)", x.ring(6, false, -1), -9);
        due("ring(1, false, 0)", x.ring(1, false, 0), -9);
        due("ring(6, false, greatest)", x.ring(6, false, Integer.MAX_VALUE), -9);
        dueRow("ring that is none", x, "xx");
        due("rings(6, false)", x.rings(6, false), 4);
        String before = "";
        for (int i = 0; i < 4; i++) {
            due("ring(6, false, " + i + ")", x.ring(6, false, i), 1);
            due("closes()", x.closes(), 1);
            due("uses()", x.uses(), 1);
            String now = told(x);
            due("by letters: " + before + ", " + now, before.compareTo(now) < 0 ? 1 : 0, 1);
            before = now;
        }
        due("ring(6, false, 4)", x.ring(6, false, 4), -9);
        due("ring(6, false, 0)", x.ring(6, false, 0), 1);
        dueRow("ring(6, false, 0)", x, rows[0]);
        due("ring(4, true, 0)", x.ring(4, true, 0), 1);
        dueRow("ring(4, true, 0)", x, "qqqq");
        x.table(3, 15);
        due("ring(4, true, 0) on a small table", x.ring(4, true, 0), -9);
        due("ring(4, false, 0) on a small table", x.ring(4, false, 0), 1);
    }

    /** THE ROW as a text of digits. */
    private static String told(TrackBox x) {
        StringBuilder text = new StringBuilder();
        for (int i = 0; i < x.count(0); i++) {
            text.append(x.piece(i));
        }
        return text.toString();
    }

    private static void most() {
        TrackBox x = boxed(0, 0, 0, 0, 0, 4, 0);
        due("most(false) of qqqq", x.most(false), 4);
        due("most(true) of qqqq", x.most(true), 4);
        x.box(3, 1);
        due("most(false) with an eighth", x.most(false), 4);
        x.box(3, 2);
        due("most(false) with two eighths", x.most(false), 5);
        x.box(0, 2);
        due("most(false) with two straights", x.most(false), 6);
        x.table(1, 15);
        due("most(true) on a small table", x.most(true), 5);
        due("most(false) on a small table", x.most(false), 6);
        x.table(1, 6);
        due("most(true) on a smaller table: lqlqq", x.most(true), 5);
        x.table(1, 5);
        due("most(true) on the smallest table", x.most(true), -9);
        x.box(5, 3);
        due("most(false) of three quarters", x.most(false), 5);
        x.box(5, 2);
        due("most(false) of two quarters", x.most(false), -9);
        due("most(false) of none", new TrackBox().most(false), -9);
        dueRefusals("most", x, 0, 0, 0, 0, 0, 0);
    }

    private static void opens() {
        TrackBox x = boxed(1, 0, 0, 0, 0, 4, 1);
        x.size(1, 2);
        due("opens(0, true)", x.opens(0, true), -4);
        due("opens(7, true)", x.opens(7, true), -6);
        due("opens(1, false)", x.opens(1, false), -9);
        dueRefusals("opens", x, 0, 0, 0, 1, 0, 1);
        due("rings(6, false): a and x", x.rings(6, false), 1);
        due("opens(6, false): a or x", x.opens(6, false), 0);
        x.box(0, 2);
        due("opens(6, false): another x", x.opens(6, false), 6);
        x.box(6, 2);
        due("opens(6, false): none", x.opens(6, false), -9);
        x.box(1, 1);
        due("opens(6, false): another b", x.opens(6, false), 1);
        x.table(3, 15);
        due("opens(6, true) on a small table", x.opens(6, true), -9);
        TrackBox y = boxed(0, 0, 0, 0, 0, 3, 0);
        due("opens(4, false): a quarter", y.opens(4, false), 5);
        due("opens(4, true): a quarter", y.opens(4, true), 5);
        y.table(3, 15);
        due("opens(4, true) on a small table", y.opens(4, true), -9);
        y.box(5, 2);
        due("opens(4, false): two quarters lack", y.opens(4, false), -9);
        y.box(5, 9);
        due("opens(4, false): nine quarters", y.opens(4, false), -9);
        due("count(1) behind opens()", y.count(1), 9);
    }

    private static void nearest() {
        TrackBox x = new TrackBox();
        due("nearest(0)", x.nearest(0), -4);
        due("nearest(6)", x.nearest(6), -6);
        lay(x, "ab");
        due("nearest(1) of none", x.nearest(1), -9);
        dueRow("nearest of none", x, "ab");
        dueRefusals("nearest", x, 0, 0, 0, 1, 0, 1);
        x.box(5, 4);
        due("nearest(1) of bends", x.nearest(1), -9);
        due("nearest(4) but not the ring", x.nearest(4), 1);
        dueRow("nearest(4)", x, "qqtt");
        x.box(0, 1);
        due("nearest(5)", x.nearest(5), 1);
        dueRow("nearest(5)", x, "aqqqq");
        x.box(1, 2);
        due("nearest(1)", x.nearest(1), 1);
        dueRow("nearest(1)", x, "b");
        x.size(1, 4);
        due("nearest(1) of equal ones", x.nearest(1), 1);
        dueRow("nearest(1) of equal ones", x, "a");
        x.table(0, 400);
        due("nearest(5) lies or not", x.nearest(5), 1);
        TrackBox y = boxed(0, 0, 0, 2, 0, 2, 0);
        due("nearest(2) of bends", y.nearest(2), 1);
        dueRow("nearest(2) of bends", y, "lr");
        y.box(3, 1);
        due("nearest(2) of fewer", y.nearest(2), 1);
        dueRow("nearest(2) of fewer", y, "qt");
        TrackBox z = boxed(1, 1, 1, 0, 0, 0, 0);
        z.size(0, 1);
        z.size(2, 5);
        due("nearest(3) of one each", z.nearest(3), 1);
        dueRow("nearest(3) of one each", z, "abc");
        due("nearest(4) of three", z.nearest(4), -9);
    }

    private static void turn() {
        TrackBox x = new TrackBox();
        due("turn(-3)", x.turn(-3), -4);
        due("turn(3)", x.turn(3), -6);
        for (int i = 1; i <= 6; i++) {
            due("turn of " + i, x.turn(i % 5 - 2), i);
        }
        due("turn(0), a seventh", x.turn(0), -6);
        due("turn(-3), a seventh", x.turn(-3), -4);
        due("count(4)", x.count(4), 6);
        dueRefusals("turn", x, 0, 0, 0, 2, 0, 2);
    }

    private static int photo(TrackBox x, int... turns) {
        for (int v : turns) {
            x.turn(v);
        }
        int rows = x.photo();
        due("count(4) behind photo()", x.count(4), 0);
        return rows;
    }

    private static void photo() {
        TrackBox x = boxed(2, 0, 0, 2, 2, 4, 2);
        due("photo() without TURNS", x.photo(), 0);
        due("photo() of qqqq", photo(x, 2, 2, 2, 2), 1);
        due("photo() of tttt", photo(x, -2, -2, -2, -2), 1);
        due("photo() of a or x", photo(x, 0, 2, 2, 0, 2, 2), 4);
        x.box(0, 1);
        due("photo() of one a", photo(x, 0, 2, 2, 0, 2, 2), 3);
        x.box(6, 0);
        due("photo() of one a and no x", photo(x, 0, 2, 2, 0, 2, 2), 0);
        due("photo() of qllqll", photo(x, 2, 1, 1, 2, 1, 1), 2);
        x.box(3, 4);
        x.size(4, 4);
        x.box(4, 4);
        due("photo() of qllqll, equal radii", photo(x, 2, 1, 1, 2, 1, 1), 16);
        due("photo() of rrtrrt, equal radii", photo(x, -1, -1, -2, -1, -1, -2), 16);
        due("photo() of straights", photo(x, 0, 0), 0);
        due("photo() of one", photo(x, 2), 0);
        x.table(0, 400);
        due("photo() lies or not", photo(x, 2, 2, 2, 2), 1);
        due("photo() once more", x.photo(), 0);
        dueRefusals("photo", x, 0, 0, 0, 0, 0, 0);
    }

    private static void image() {
        TrackBox x = new TrackBox();
        due("image() of none", x.image(), 0);
        lay(x, "abc");
        due("image() of abc", x.image(), 3);
        dueRow("image", x, "abc");
        lay(x, "q");
        due("on()", x.on(), 3);
        lay(x, "qqqqqqqqqqqqqqqqqqqqqqqq");
        due("image() anew", x.image(), 24);
        lay(x, "q");
        due("on()", x.on(), 24);
    }

    private static void on() {
        TrackBox x = new TrackBox();
        due("on() without an image", x.on(), -3);
        dueRefusals("on", x, 0, 0, 1, 0, 0, 0);
        lay(x, "qtx");
        x.box(5, 4);
        x.size(5, 7);
        x.table(2, -7);
        x.leg(3, 4);
        due("image()", x.image(), 3);
        for (int again = 0; again < 2; again++) {
            lay(x, "ab");
            x.box(5, 3);
            x.box(0, 9);
            x.size(5, 20);
            x.table(2, 0);
            x.table(0, 0);
            x.leg(14, 14);
            x.feed(2, 0L);
            x.turn(2);
            due("on()", x.on(), 3);
            dueRow("on", x, "qtx");
            due("on: count(1)", x.count(1), 4);
            due("on: count(2)", x.count(2), 1);
            due("on: count(3)", x.count(3), 2);
            due("on: count(4)", x.count(4), again + 1);
            dueJoint(x, 1, 14, 0, 14, 0, 2);
            due("on: off()", x.off(), -9);
            due("on: rings(4, false)", x.rings(4, false), 1);
            due("on: size(5, 7)", x.size(5, 7), 7);
            due("on: table(2, -7)", x.table(2, -7), -7);
            due("on: table(0, -400)", x.table(0, -400), -400);
            due("row() of the bytes left", x.row(), -20);
            dueRefusals("on", x, 0, 0, 1, 0, 0, 0);
            x.on();
        }
        lay(x, "ab");
        x.leg(28, 28);
        due("the leg of then, not that told behind it", x.on(), 3);
        x.table(3, 14);
        lay(x, "q");
        due("off() at no leg", x.off(), -9);
        x.leg(14, 14);
        due("off() at a leg", x.off(), 1);
    }

    private static void count() {
        TrackBox x = boxed(1, 2, 3, 4, 5, 6, 7);
        due("count(1)", x.count(1), 28);
        lay(x, "xx");
        due("count(0)", x.count(0), 2);
        x.leg(0, 0);
        due("count(2)", x.count(2), 1);
        feed(x, "abc");
        due("count(3)", x.count(3), 3);
        x.turn(1);
        due("count(4)", x.count(4), 1);
        x.box(7, 0);
        x.joint(5, 0);
        x.gap(5);
        x.sign(1000001, 0);
        x.turn(-3);
        x.table(0, -401);
        x.rings(7, true);
        x.nearest(6);
        x.opens(9, true);
        dueRefusals("count", x, 2, 1, 1, 2, 0, 3);
        int[] none = {-1, 5, 10, 17, -9, Integer.MAX_VALUE, Integer.MIN_VALUE, -2147483637};
        for (int what : none) {
            due("count(" + what + ")", x.count(what), -9);
        }
        dueRefusals("count of another what", x, 2, 1, 1, 2, 0, 3);
    }
}
