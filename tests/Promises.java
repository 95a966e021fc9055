/** A test of each promise of the document: ordinary inputs, the edges that it names, wrong inputs. */
public final class Promises {
    private static final int[] SIZES = {4, 2, 1, 4, 6, 4, 4};

    public static void main(String[] args) {
        newObject();
        feed();
        row();
        box();
        size();
        piece();
        joint();
        closes();
        uses();
        sign();
        gap();
        nearer();
        table();
        leg();
        off();
        touches();
        lies();
        rings();
        ringsAlike();
        ring();
        most();
        opens();
        nearest();
        turn();
        photo();
        image();
        on();
        count();
        Check.end("all promises hold");
    }

    private static void newObject() {
        TrackBox x = new TrackBox();
        for (int what = 0; what <= 4; what++) {
            Check.due("new: count(" + what + ")", x.count(what), 0);
        }
        Check.dueRefusals("new", x, 0, 0, 0, 0, 0, 0);
        for (int kind = 0; kind < 7; kind++) {
            Check.due("new: box(" + kind + ", 0)", x.box(kind, 0), 0);
            Check.due("new: size(" + kind + ", 1)", x.size(kind, 1), SIZES[kind]);
        }
        Check.due("new: on()", x.on(), -3);
        Check.due("new: closes()", x.closes(), 0);
        Check.due("new: uses()", x.uses(), 1);
        Check.due("new: lies()", x.lies(), 1);
        Check.dueJoint(x, 0, 0, 0, 0, 0, 0);
        for (int side = 0; side < 4; side++) {
            Check.due("new: table(" + side + ", 0)", x.table(side, 0), side % 2 == 0 ? -400 : 400);
        }
    }

    private static void feed() {
        TrackBox x = new TrackBox();
        Check.due("feed(0, 0)", x.feed(0, 0L), -4);
        Check.due("feed(least, 0)", x.feed(Integer.MIN_VALUE, 0L), -4);
        Check.due("feed(9, 0)", x.feed(9, 0L), -6);
        Check.due("feed(greatest, 0)", x.feed(Integer.MAX_VALUE, 0L), -6);
        Check.due("feed(2, ba and more)", x.feed(2, 0x7878786162L), 2);
        Check.due("feed(8, q)", x.feed(8, 0x7171717171717171L), 10);
        Check.due("feed(8, t)", x.feed(8, 0x7474747474747474L), 18);
        Check.due("feed(7, x)", x.feed(7, 0x78787878787878L), -6);
        Check.due("feed(6, x)", x.feed(6, 0x787878787878L), 24);
        Check.due("feed(1, a) above 24", x.feed(1, 97L), -6);
        Check.due("count(3)", x.count(3), 24);
        Check.dueRefusals("feed", x, 0, 0, 0, 2, 0, 4);
        Check.due("row() of 24", x.row(), 24);
        Check.dueRow("feed", x, "baqqqqqqqqttttttttxxxxxx");
    }

    private static void row() {
        TrackBox x = Check.laid("abclmrsqtx");
        Check.dueRow("row", x, "abclmrsqtx");
        Check.due("row() of d", Check.lay(x, "d"), -20);
        Check.due("row() of abz", Check.lay(x, "abz1"), -22);
        Check.dueRow("row with a FAULT", x, "abclmrsqtx");
        Check.due("count(3) behind a FAULT", x.count(3), 0);
        Check.due("row() with a FAULT at its end", Check.lay(x, "xxxxxxxxxxxxxxxxxxxxxxxA"), -43);
        x.feed(1, 0L);
        Check.due("row() of byte 0", x.row(), -20);
        x.feed(2, 0xE161L);
        Check.due("row() of byte 225", x.row(), -21);
        Check.dueRefusals("row", x, 0, 0, 0, 0, 0, 0);
        Check.due("row() of the next text", Check.lay(x, "qt"), 2);
        Check.dueRow("row", x, "qt");
        Check.due("row() of none", x.row(), 0);
        Check.due("count(0) of none", x.count(0), 0);
        Check.due("piece(0) of none", x.piece(0), -9);
    }

    private static void box() {
        TrackBox x = new TrackBox();
        Check.due("box(-1, 0)", x.box(-1, 0), -1);
        Check.due("box(7, -1)", x.box(7, -1), -1);
        Check.due("box(6, -1)", x.box(6, -1), -4);
        Check.due("box(6, 10)", x.box(6, 10), -6);
        Check.due("box(6, 9)", x.box(6, 9), 0);
        Check.due("box(6, 10)", x.box(6, 10), -6);
        Check.due("box(6, 0)", x.box(6, 0), 9);
        Check.due("box(0, 3)", x.box(0, 3), 0);
        Check.due("box(0, 3)", x.box(0, 3), 3);
        Check.dueRefusals("box", x, 2, 0, 0, 1, 0, 2);
    }

    private static void size() {
        TrackBox x = Check.laid("abclmqx");
        Check.due("size(-1, 1)", x.size(-1, 1), -1);
        Check.due("size(7, 0)", x.size(7, 0), -1);
        Check.due("size(0, 0)", x.size(0, 0), -4);
        Check.due("size(0, 21)", x.size(0, 21), -6);
        Check.due("joint(1, 0)", x.joint(1, 0), 8);
        Check.due("size(0, 20)", x.size(0, 20), 4);
        Check.due("joint(1, 0) of the new size", x.joint(1, 0), 40);
        Check.due("size(0, 1)", x.size(0, 1), 20);
        Check.due("joint(1, 0) of the new size", x.joint(1, 0), 2);
        Check.due("size(0, 21)", x.size(0, 21), -6);
        Check.due("size(0, 1)", x.size(0, 1), 1);
        Check.dueRefusals("size", x, 2, 0, 0, 1, 0, 2);
        TrackBox y = Check.boxed(0, 0, 0, 0, 0, 2, 0);
        y.box(3, 4);
        Check.due("rings(6, false)", y.rings(6, false), 3);
        y.size(3, 5);
        Check.due("rings(6, false) with longer bends", y.rings(6, false), 1);
        y.box(4, 2);
        Check.due("rings(6, false) with others", y.rings(6, false), 2);
        y.size(4, 5);
        Check.due("rings(6, false) with others of that size", y.rings(6, false), 5);
    }

    private static void piece() {
        TrackBox x = Check.laid("xtqsrmlcba");
        Check.dueRow("piece", x, "xtqsrmlcba");
        Check.due("piece(10)", x.piece(10), -9);
        Check.due("piece(-1)", x.piece(-1), -9);
        Check.due("piece(24)", x.piece(24), -9);
        Check.due("piece(greatest)", x.piece(Integer.MAX_VALUE), -9);
        Check.due("piece(least)", x.piece(Integer.MIN_VALUE), -9);
        Check.dueRefusals("piece", x, 0, 0, 0, 0, 0, 0);
    }

    private static void joint() {
        TrackBox x = Check.laid("lalalalalalalala");
        Check.dueJoint(x, 0, 0, 0, 0, 0, 0);
        Check.dueJoint(x, 1, 0, 4, 8, -4, 1);
        Check.dueJoint(x, 2, 0, 8, 8, 0, 1);
        Check.dueJoint(x, 3, 8, 4, 8, 4, 2);
        Check.dueJoint(x, 4, 8, 4, 16, 4, 2);
        Check.dueJoint(x, 6, 0, 4, 16, 12, 3);
        Check.dueJoint(x, 8, -8, 0, 24, 8, 4);
        Check.dueJoint(x, 16, 0, 0, 0, 0, 0);
        Check.due("joint(17, 0)", x.joint(17, 0), 1000000001);
        Check.due("joint(-1, 5)", x.joint(-1, 5), 1000000001);
        Check.due("joint(16, 5)", x.joint(16, 5), 1000000002);
        Check.due("joint(0, -1)", x.joint(0, -1), 1000000002);
        Check.dueRefusals("joint", x, 2, 2, 0, 0, 0, 0);
        TrackBox y = Check.laid("smtqrbcx");
        Check.dueJoint(y, 1, 0, 6, -12, 6, 7);
        Check.dueJoint(y, 2, 0, 12, -24, 12, 0);
        Check.dueJoint(y, 3, 8, 12, -32, 12, 6);
        Check.dueJoint(y, 4, 16, 12, -40, 12, 0);
        Check.dueJoint(y, 5, 16, 16, -48, 16, 7);
        Check.dueJoint(y, 6, 16, 18, -48, 14, 7);
        Check.dueJoint(y, 7, 16, 19, -48, 13, 7);
        Check.dueJoint(y, 8, 16, 23, -48, 9, 7);
        TrackBox z = Check.laid("lqlt");
        Check.dueJoint(z, 2, 0, 4, 8, 4, 3);
        Check.dueJoint(z, 4, -8, 0, 24, 0, 2);
    }

    private static void closes() {
        Check.due("closes() of none", new TrackBox().closes(), 0);
        Check.due("closes() of tttt", Check.laid("tttt").closes(), 1);
        Check.due("closes() of eight r", Check.laid("rrrrrrrr").closes(), 1);
        Check.due("closes() of qqllqq", Check.laid("qqllqq").closes(), 0);
        Check.due("closes() of qllqll", Check.laid("qllqll").closes(), 1);
        Check.due("closes() of qqqqa", Check.laid("qqqqa").closes(), 0);
        Check.due("closes() of xqqqx, home in another direction", Check.laid("xqqqx").closes(), 0);
        Check.due("closes() of aqqbqqb", Check.laid("aqqbqqb").closes(), 0);
        Check.due("closes() of aqqbqq", Check.laid("aqqbqq").closes(), 0);
        Check.due("closes() of aqqbbqq", Check.laid("aqqbbqq").closes(), 1);
    }

    private static void uses() {
        TrackBox x = Check.boxed(1, 0, 0, 2, 0, 1, 0);
        Check.due("uses() of none", x.uses(), 1);
        Check.lay(x, "alrq");
        Check.due("uses() of alrq", x.uses(), 1);
        Check.lay(x, "lrl");
        Check.due("uses() of lrl", x.uses(), 0);
        Check.lay(x, "qt");
        Check.due("uses() of qt", x.uses(), 0);
        Check.lay(x, "x");
        Check.due("uses() of x", x.uses(), 0);
        x.box(6, 1);
        Check.due("uses() of x, 1", x.uses(), 1);
        Check.lay(x, "b");
        Check.due("uses() of b", x.uses(), 0);
        Check.lay(x, "ms");
        x.box(4, 1);
        Check.due("uses() of ms, 1", x.uses(), 0);
        x.box(4, 2);
        Check.due("uses() of ms, 2", x.uses(), 1);
    }

    private static void sign() {
        TrackBox x = new TrackBox();
        int[][] above = {{1, 0}, {0, 1}, {1, 1}, {3, -2}, {-7, 5}, {1000000, -707106}, {-1000000, 707107},
            {1000000, 1000000}, {-665857 + 1, 470832}, {-1, 1}, {2, -1}, {-141421, 100000}, {665857, -470832}};
        for (int[] n : above) {
            Check.due("sign(" + n[0] + ", " + n[1] + ")", x.sign(n[0], n[1]), 1);
            Check.due("sign(" + -n[0] + ", " + -n[1] + ")", x.sign(-n[0], -n[1]), -1);
        }
        Check.due("sign(0, 0)", x.sign(0, 0), 0);
        Check.due("sign(1000001, 0)", x.sign(1000001, 0), -3);
        Check.due("sign(-1000001, 0)", x.sign(-1000001, 0), -3);
        Check.due("sign(0, 1000001)", x.sign(0, 1000001), -3);
        Check.due("sign(0, -1000001)", x.sign(0, -1000001), -3);
        Check.due("sign(least, least)", x.sign(Integer.MIN_VALUE, Integer.MIN_VALUE), -3);
        Check.dueRefusals("sign", x, 0, 0, 5, 0, 0, 0);
    }

    private static void gap() {
        TrackBox x = Check.laid("aqq");
        Check.due("gap(0) of aqq", x.gap(0), 320);
        Check.due("gap(1) of aqq", x.gap(1), 0);
        Check.due("gap(-1)", x.gap(-1), 1000000002);
        Check.due("gap(2)", x.gap(2), 1000000002);
        Check.dueRefusals("gap", x, 0, 2, 0, 0, 0, 0);
        Check.lay(x, "l");
        Check.due("gap(0) of l", x.gap(0), 128);
        Check.due("gap(1) of l", x.gap(1), -64);
        Check.lay(x, "la");
        Check.due("gap(0) of la", x.gap(0), 192);
        Check.due("gap(1) of la", x.gap(1), 0);
        Check.lay(x, "tttt");
        Check.due("gap(0) of tttt", x.gap(0), 0);
        x.size(0, 20);
        Check.lay(x, "aaaaaaaaaaaaaaaaaaaaaaaa");
        Check.due("gap(0) of the longest", x.gap(0), 921600);
        x.size(5, 20);
        Check.lay(x, "lqtqtqtqtqtqtqtqtqtqtqtq");
        Check.due("gap(0) of a long slant", x.gap(0), 1678208);
        Check.due("gap(1) of a long slant", x.gap(1), 14656);
    }

    private static void nearer() {
        TrackBox x = Check.laid("l");
        Check.due("nearer(128, -64)", x.nearer(128, -64), 0);
        Check.due("nearer(128, -63)", x.nearer(128, -63), 1);
        Check.due("nearer(129, -64)", x.nearer(129, -64), 1);
        Check.due("nearer(37, 0)", x.nearer(37, 0), 0);
        Check.due("nearer(38, 0)", x.nearer(38, 0), 1);
        Check.due("nearer(0, 27)", x.nearer(0, 27), 1);
        Check.due("nearer(0, 26)", x.nearer(0, 26), 0);
        Check.due("nearer(1000000, -1000000)", x.nearer(1000000, -1000000), 0);
        Check.due("nearer(-1000000, 1000000)", x.nearer(-1000000, 1000000), 1);
        Check.due("nearer(-1000001, 1000001)", x.nearer(-1000001, 1000001), -4);
        Check.due("nearer(1000001, -1000001)", x.nearer(1000001, -1000001), -4);
        Check.due("nearer(1000001, 0)", x.nearer(1000001, 0), -6);
        Check.due("nearer(0, 1000001)", x.nearer(0, 1000001), -6);
        Check.dueRefusals("nearer", x, 0, 0, 0, 2, 0, 2);
        Check.lay(x, "qqqq");
        Check.due("nearer(0, 0) of a ring", x.nearer(0, 0), 0);
        Check.due("nearer(3, -2) of a ring", x.nearer(3, -2), 1);
        Check.due("nearer(-3, 2) of a ring", x.nearer(-3, 2), 0);
    }

    private static void table() {
        TrackBox x = new TrackBox();
        int faults = 1000000000;
        Check.due("table(-1, 500)", x.table(-1, 500), faults + 2);
        Check.due("table(4, 0)", x.table(4, 0), faults + 2);
        Check.due("table(3, -401)", x.table(3, -401), faults + 4);
        Check.due("table(3, 401)", x.table(3, 401), faults + 6);
        Check.due("table(0, 400)", x.table(0, 400), -400);
        Check.due("table(0, -400)", x.table(0, -400), 400);
        Check.due("table(1, -400)", x.table(1, -400), 400);
        Check.due("table(2, 5)", x.table(2, 5), -400);
        Check.due("table(3, 6)", x.table(3, 6), 400);
        Check.due("table(2, 7)", x.table(2, 7), 5);
        Check.due("table(3, 401)", x.table(3, 401), faults + 6);
        Check.due("table(3, 8)", x.table(3, 8), 6);
        Check.due("table(1, 9)", x.table(1, 9), -400);
        Check.dueRefusals("table", x, 0, 2, 0, 1, 0, 2);
    }

    private static void leg() {
        TrackBox x = new TrackBox();
        Check.due("leg(-401, 401)", x.leg(-401, 401), -4);
        Check.due("leg(401, -401)", x.leg(401, -401), -4);
        Check.due("leg(401, 0)", x.leg(401, 0), -6);
        Check.due("leg(0, 401)", x.leg(0, 401), -6);
        Check.due("leg(400, -400)", x.leg(400, -400), 1);
        Check.due("leg(-400, 400)", x.leg(-400, 400), 2);
        Check.due("leg(400, -400) again", x.leg(400, -400), 3);
        Check.due("count(2)", x.count(2), 3);
        Check.due("off() elsewhere", x.off(), -9);
        x.leg(1, 1);
        x.leg(2, 2);
        Check.due("leg(8, 0)", x.leg(8, 0), 6);
        Check.due("leg(0, 0), a seventh", x.leg(0, 0), -6);
        Check.due("leg(-401, 0), a seventh", x.leg(-401, 0), -4);
        Check.due("count(2)", x.count(2), 6);
        Check.due("off() with no leg at 0, 0", x.off(), -9);
        Check.lay(x, "a");
        Check.due("off() at the sixth leg", x.off(), 1);
        Check.dueRefusals("leg", x, 0, 0, 0, 3, 0, 3);
    }

    private static void off() {
        TrackBox x = Check.laid("aqq");
        Check.due("off()", x.off(), -9);
        x.table(1, 16);
        Check.due("off() at RIGHT", x.off(), -9);
        x.table(1, 15);
        Check.due("off() over RIGHT", x.off(), 2);
        x.table(1, 7);
        Check.due("off() over RIGHT sooner", x.off(), 1);
        x.table(1, 400);
        x.table(3, 15);
        Check.due("off() over ABOVE", x.off(), 3);
        x.table(3, 16);
        Check.due("off() at ABOVE", x.off(), -9);
        x.table(2, 0);
        Check.due("off() at BELOW", x.off(), -9);
        x.table(2, 1);
        Check.due("off() under BELOW", x.off(), 0);
        x.table(2, 0);
        x.table(0, 0);
        Check.due("off() at LEFT", x.off(), -9);
        x.leg(16, 8);
        Check.due("off() at a LEG", x.off(), 2);
        TrackBox y = Check.laid("lll");
        y.table(1, 13);
        y.leg(5, 2);
        y.leg(8, 7);
        y.leg(0, 8);
        Check.due("off() near LEGS", y.off(), -9);
        y.table(3, 13);
        Check.due("off() over ABOVE by a root", y.off(), 3);
        y.table(3, 400);
        y.table(1, 5);
        Check.due("off() at once", y.off(), 1);
        y.table(1, 6);
        Check.due("off() a joint on", y.off(), 2);
        TrackBox z = Check.laid("rrr");
        z.table(2, -3);
        Check.due("off() under BELOW by a root", z.off(), 2);
        z.table(2, -13);
        Check.due("off() under BELOW by more", z.off(), 3);
        z.table(0, 5);
        z.table(1, -5);
        Check.due("off() with LEFT above RIGHT", z.off(), 0);
        Check.due("off() of none on such a table", emptyOff(), 0);
    }

    private static int emptyOff() {
        TrackBox x = new TrackBox();
        x.table(0, 1);
        return x.off();
    }

    private static void touches() {
        Check.due("touches() of none", new TrackBox().touches(), -9);
        Check.due("touches() of qqqq", Check.laid("qqqq").touches(), -9);
        Check.due("touches() of qqqqq", Check.laid("qqqqq").touches(), 4);
        Check.due("touches() of aqqqa, home in another direction", Check.laid("aqqqa").touches(), 5);
        Check.due("touches() of bbaqqqa", Check.laid("bbaqqqa").touches(), 7);
        Check.due("touches() of two rings", Check.laid("qqqqqqqq").touches(), 4);
        Check.due("touches() of bxqqqx over a joint behind a crossing", Check.laid("bxqqqx").touches(), 6);
        Check.due("touches() of bxxqqqx", Check.laid("bxxqqqx").touches(), -9);
        Check.due("touches() of bxaqqqx", Check.laid("bxaqqqx").touches(), -9);
        Check.due("touches() of baxqqqx", Check.laid("baxqqqx").touches(), 7);
        Check.due("touches() of bxaqqqa", Check.laid("bxaqqqa").touches(), 7);
        Check.due("touches() of xqqqxttt", Check.laid("xqqqxttt").touches(), 5);
        Check.due("touches() of lllxrrr", Check.laid("lllxrrr").touches(), -9);
        Check.due("touches() of a ring that begins elsewhere", Check.laid("aqqqqa").touches(), 5);
        Check.due("touches() of an eight with a crossing", Check.laid("xaqqqxattt").touches(), -9);
        Check.due("touches() of an eight with one crossing piece", Check.laid("xaqqqaxttt").touches(), 6);
        Check.due("touches() of an eight that begins elsewhere", Check.laid("cxaqqqxattta").touches(), 11);
    }

    private static void lies() {
        Check.due("lies() of none", new TrackBox().lies(), 1);
        TrackBox x = Check.laid("qqqq");
        Check.due("lies()", x.lies(), 1);
        x.table(0, -8);
        Check.due("lies() at LEFT", x.lies(), 1);
        x.table(0, -7);
        Check.due("lies() over LEFT", x.lies(), 0);
        x.table(0, -8);
        Check.lay(x, "qqqqq");
        Check.due("lies() on itself", x.lies(), 0);
        Check.lay(x, "qqqq");
        Check.due("lies() again", x.lies(), 1);
        x.leg(0, 16);
        Check.due("lies() at a LEG", x.lies(), 0);
    }

    private static void rings() {
        TrackBox x = new TrackBox();
        Check.due("rings(0, false)", x.rings(0, false), -4);
        Check.due("rings(7, false)", x.rings(7, false), -6);
        Check.due("rings(6, false) of none", x.rings(6, false), 0);
        Check.dueRefusals("rings", x, 0, 0, 0, 1, 0, 1);
        for (int kind = 0; kind < 7; kind++) {
            x.box(kind, 9);
            x.size(kind, 4);
        }
        int[] many = {0, 0, 0, 1, 6, 39};
        for (int n = 1; n <= 6; n++) {
            Check.due("rings(" + n + ", false) of one size", x.rings(n, false), many[n - 1]);
        }
        TrackBox y = Check.boxed(0, 0, 0, 0, 0, 3, 0);
        Check.due("rings(4, false) of three", y.rings(4, false), 0);
        y.box(5, 4);
        Check.due("rings(4, false) of four", y.rings(4, false), 1);
        Check.due("rings(4, true)", y.rings(4, true), 1);
        y.table(3, 15);
        Check.due("rings(4, false) on a small table", y.rings(4, false), 1);
        Check.due("rings(4, true) on a small table", y.rings(4, true), 0);
        y.table(3, 16);
        Check.due("rings(4, true) on a table as wide", y.rings(4, true), 1);
        y.leg(8, 8);
        Check.due("rings(4, true) with a LEG", y.rings(4, true), 0);
    }

    /** Of alike rings only the first by letters is looked at: whether it lies tells for all. */
    private static void ringsAlike() {
        TrackBox x = Check.boxed(1, 2, 0, 0, 0, 4, 0);
        x.size(1, 4);
        Check.due("rings(6, false) of a and b", x.rings(6, false), 2);
        x.ring(6, false, 0);
        Check.dueRow("aqqbqq", x, "aqqbqq");
        x.ring(6, false, 1);
        Check.dueRow("bqqbqq", x, "bqqbqq");
        TrackBox y = Check.boxed(2, 0, 0, 0, 0, 4, 0);
        y.table(3, 0);
        Check.lay(y, "attatt");
        Check.due("lies() of attatt", y.lies(), 1);
        Check.due("rings(6, true) with only the mirrored one on the table", y.rings(6, true), 0);
        y.table(3, 400);
        y.leg(16, 8);
        Check.due("rings(6, true) with a LEG in the way of the first", y.rings(6, true), 0);
        Check.lay(y, "qqaqqa");
        Check.due("lies() of qqaqqa", y.lies(), 1);
        Check.due("rings(6, false)", y.rings(6, false), 1);
        TrackBox z = Check.boxed(0, 0, 0, 1, 1, 4, 0);
        z.size(3, 3);
        z.size(4, 1);
        z.size(5, 1);
        Check.due("rings(6, false) with a bend to the right", z.rings(6, false), 1);
        z.ring(6, false, 0);
        Check.dueRow("a ring with a bend to the right", z, "lqqsqq");
        z.size(3, 1);
        z.size(4, 3);
        Check.due("rings(6, false) with a bend to the left", z.rings(6, false), 1);
        z.ring(6, false, 0);
        Check.dueRow("a ring with a bend to the left", z, "lttstt");
    }

    private static void ring() {
        TrackBox x = Check.boxed(2, 0, 0, 8, 0, 4, 0);
        Check.due("ring(0, false, -1)", x.ring(0, false, -1), -4);
        Check.due("ring(7, false, -1)", x.ring(7, false, -1), -6);
        Check.dueRefusals("ring", x, 0, 0, 0, 1, 0, 1);
        String[] rows = {"aqqaqq", "llllqq", "lllqlq", "llqllq"};
        Check.lay(x, "xx");
        Check.due("ring(6, false, -1)", x.ring(6, false, -1), -9);
        Check.due("ring(1, false, 0)", x.ring(1, false, 0), -9);
        Check.due("ring(6, false, greatest)", x.ring(6, false, Integer.MAX_VALUE), -9);
        Check.dueRow("ring that is none", x, "xx");
        Check.due("rings(6, false)", x.rings(6, false), 4);
        for (int i = 0; i < 4; i++) {
            Check.due("ring(6, false, " + i + ")", x.ring(6, false, i), 1);
            Check.dueRow("ring(6, false, " + i + ")", x, rows[i]);
            Check.due("closes()", x.closes(), 1);
            Check.due("uses()", x.uses(), 1);
        }
        Check.due("ring(6, false, 4)", x.ring(6, false, 4), -9);
        Check.due("ring(6, false, 0)", x.ring(6, false, 0), 1);
        Check.dueRow("ring(6, false, 0)", x, rows[0]);
        Check.due("ring(4, true, 0)", x.ring(4, true, 0), 1);
        Check.dueRow("ring(4, true, 0)", x, "qqqq");
        x.table(3, 15);
        Check.due("ring(4, true, 0) on a small table", x.ring(4, true, 0), -9);
        Check.due("ring(4, false, 0) on a small table", x.ring(4, false, 0), 1);
    }

    private static void most() {
        TrackBox x = Check.boxed(0, 0, 0, 0, 0, 4, 0);
        Check.due("most(false) of qqqq", x.most(false), 4);
        Check.due("most(true) of qqqq", x.most(true), 4);
        x.box(3, 1);
        Check.due("most(false) with an eighth", x.most(false), 4);
        x.box(3, 2);
        Check.due("most(false) with two eighths", x.most(false), 5);
        x.box(0, 2);
        Check.due("most(false) with two straights", x.most(false), 6);
        x.table(1, 15);
        Check.due("most(true) on a small table", x.most(true), 5);
        Check.due("most(false) on a small table", x.most(false), 6);
        x.table(1, 6);
        Check.due("most(true) on a smaller table: lqlqq", x.most(true), 5);
        x.table(1, 5);
        Check.due("most(true) on the smallest table", x.most(true), -9);
        x.box(5, 3);
        Check.due("most(false) of three quarters", x.most(false), 5);
        x.box(5, 2);
        Check.due("most(false) of two quarters", x.most(false), -9);
        Check.due("most(false) of none", new TrackBox().most(false), -9);
        Check.dueRefusals("most", x, 0, 0, 0, 0, 0, 0);
    }

    private static void opens() {
        TrackBox x = Check.boxed(1, 0, 0, 0, 0, 4, 1);
        x.size(1, 2);
        Check.due("opens(0, true)", x.opens(0, true), -4);
        Check.due("opens(7, true)", x.opens(7, true), -6);
        Check.due("opens(1, false)", x.opens(1, false), -9);
        Check.dueRefusals("opens", x, 0, 0, 0, 1, 0, 1);
        Check.due("rings(6, false): a and x", x.rings(6, false), 1);
        Check.due("opens(6, false): a or x", x.opens(6, false), 0);
        x.box(0, 2);
        Check.due("opens(6, false): another x", x.opens(6, false), 6);
        x.box(6, 2);
        Check.due("opens(6, false): none", x.opens(6, false), -9);
        x.box(1, 1);
        Check.due("opens(6, false): another b", x.opens(6, false), 1);
        x.table(3, 15);
        Check.due("opens(6, true) on a small table", x.opens(6, true), -9);
        TrackBox y = Check.boxed(0, 0, 0, 0, 0, 3, 0);
        Check.due("opens(4, false): a quarter", y.opens(4, false), 5);
        Check.due("opens(4, true): a quarter", y.opens(4, true), 5);
        y.table(3, 15);
        Check.due("opens(4, true) on a small table", y.opens(4, true), -9);
        y.box(5, 2);
        Check.due("opens(4, false): two quarters lack", y.opens(4, false), -9);
        y.box(5, 9);
        Check.due("opens(4, false): nine quarters", y.opens(4, false), -9);
        Check.due("count(1) behind opens()", y.count(1), 9);
    }

    private static void nearest() {
        TrackBox x = new TrackBox();
        Check.due("nearest(0)", x.nearest(0), -4);
        Check.due("nearest(6)", x.nearest(6), -6);
        Check.lay(x, "ab");
        Check.due("nearest(1) of none", x.nearest(1), -9);
        Check.dueRow("nearest of none", x, "ab");
        Check.dueRefusals("nearest", x, 0, 0, 0, 1, 0, 1);
        x.box(5, 4);
        Check.due("nearest(1) of bends", x.nearest(1), -9);
        Check.due("nearest(4) but not the ring", x.nearest(4), 1);
        Check.dueRow("nearest(4)", x, "qqtt");
        x.box(0, 1);
        Check.due("nearest(5)", x.nearest(5), 1);
        Check.dueRow("nearest(5)", x, "aqqqq");
        x.box(1, 2);
        Check.due("nearest(1)", x.nearest(1), 1);
        Check.dueRow("nearest(1)", x, "b");
        x.size(1, 4);
        Check.due("nearest(1) of equal ones", x.nearest(1), 1);
        Check.dueRow("nearest(1) of equal ones", x, "a");
        x.table(0, 400);
        Check.due("nearest(5) lies or not", x.nearest(5), 1);
        TrackBox y = Check.boxed(0, 0, 0, 2, 0, 2, 0);
        Check.due("nearest(2) of bends", y.nearest(2), 1);
        Check.dueRow("nearest(2) of bends", y, "lr");
        y.box(3, 1);
        Check.due("nearest(2) of fewer", y.nearest(2), 1);
        Check.dueRow("nearest(2) of fewer", y, "qt");
        TrackBox z = Check.boxed(1, 1, 1, 0, 0, 0, 0);
        z.size(0, 1);
        z.size(2, 5);
        Check.due("nearest(3) of one each", z.nearest(3), 1);
        Check.dueRow("nearest(3) of one each", z, "abc");
        Check.due("nearest(4) of three", z.nearest(4), -9);
    }

    private static void turn() {
        TrackBox x = new TrackBox();
        Check.due("turn(-3)", x.turn(-3), -4);
        Check.due("turn(3)", x.turn(3), -6);
        for (int i = 1; i <= 6; i++) {
            Check.due("turn of " + i, x.turn(i % 5 - 2), i);
        }
        Check.due("turn(0), a seventh", x.turn(0), -6);
        Check.due("turn(-3), a seventh", x.turn(-3), -4);
        Check.due("count(4)", x.count(4), 6);
        Check.dueRefusals("turn", x, 0, 0, 0, 2, 0, 2);
    }

    private static int photo(TrackBox x, int... turns) {
        for (int v : turns) {
            x.turn(v);
        }
        int rows = x.photo();
        Check.due("count(4) behind photo()", x.count(4), 0);
        return rows;
    }

    private static void photo() {
        TrackBox x = Check.boxed(2, 0, 0, 2, 2, 4, 2);
        Check.due("photo() without TURNS", x.photo(), 0);
        Check.due("photo() of qqqq", photo(x, 2, 2, 2, 2), 1);
        Check.due("photo() of tttt", photo(x, -2, -2, -2, -2), 1);
        Check.due("photo() of a or x", photo(x, 0, 2, 2, 0, 2, 2), 4);
        x.box(0, 1);
        Check.due("photo() of one a", photo(x, 0, 2, 2, 0, 2, 2), 3);
        x.box(6, 0);
        Check.due("photo() of one a and no x", photo(x, 0, 2, 2, 0, 2, 2), 0);
        Check.due("photo() of qllqll", photo(x, 2, 1, 1, 2, 1, 1), 2);
        x.box(3, 4);
        x.size(4, 4);
        x.box(4, 4);
        Check.due("photo() of qllqll, equal radii", photo(x, 2, 1, 1, 2, 1, 1), 16);
        Check.due("photo() of rrtrrt, equal radii", photo(x, -1, -1, -2, -1, -1, -2), 16);
        Check.due("photo() of straights", photo(x, 0, 0), 0);
        Check.due("photo() of one", photo(x, 2), 0);
        x.table(0, 400);
        Check.due("photo() lies or not", photo(x, 2, 2, 2, 2), 1);
        Check.due("photo() once more", x.photo(), 0);
        Check.dueRefusals("photo", x, 0, 0, 0, 0, 0, 0);
    }

    private static void image() {
        TrackBox x = new TrackBox();
        Check.due("image() of none", x.image(), 0);
        Check.lay(x, "abc");
        Check.due("image() of abc", x.image(), 3);
        Check.dueRow("image", x, "abc");
        Check.lay(x, "q");
        Check.due("on()", x.on(), 3);
        Check.lay(x, "qqqqqqqqqqqqqqqqqqqqqqqq");
        Check.due("image() anew", x.image(), 24);
        Check.lay(x, "q");
        Check.due("on()", x.on(), 24);
    }

    private static void on() {
        TrackBox x = new TrackBox();
        Check.due("on() without an image", x.on(), -3);
        Check.dueRefusals("on", x, 0, 0, 1, 0, 0, 0);
        Check.lay(x, "qtx");
        x.box(5, 4);
        x.size(5, 7);
        x.table(2, -7);
        x.leg(3, 4);
        Check.due("image()", x.image(), 3);
        for (int again = 0; again < 2; again++) {
            Check.lay(x, "ab");
            x.box(5, 3);
            x.box(0, 9);
            x.size(5, 20);
            x.table(2, 0);
            x.table(0, 0);
            x.leg(14, 14);
            x.feed(2, 0L);
            x.turn(2);
            Check.due("on()", x.on(), 3);
            Check.dueRow("on", x, "qtx");
            Check.due("on: count(1)", x.count(1), 4);
            Check.due("on: count(2)", x.count(2), 1);
            Check.due("on: count(3)", x.count(3), 2);
            Check.due("on: count(4)", x.count(4), again + 1);
            Check.dueJoint(x, 1, 14, 0, 14, 0, 2);
            Check.due("on: off()", x.off(), -9);
            Check.due("on: rings(4, false)", x.rings(4, false), 1);
            Check.due("on: size(5, 7)", x.size(5, 7), 7);
            Check.due("on: table(2, -7)", x.table(2, -7), -7);
            Check.due("on: table(0, -400)", x.table(0, -400), -400);
            Check.due("row() of the bytes left", x.row(), -20);
            Check.dueRefusals("on", x, 0, 0, 1, 0, 0, 0);
            x.on();
        }
        Check.lay(x, "ab");
        x.leg(28, 28);
        Check.due("the leg of then, not that told behind it", x.on(), 3);
        x.table(3, 14);
        Check.lay(x, "q");
        Check.due("off() at no leg", x.off(), -9);
        x.leg(14, 14);
        Check.due("off() at a leg", x.off(), 1);
    }

    private static void count() {
        TrackBox x = Check.boxed(1, 2, 3, 4, 5, 6, 7);
        Check.due("count(1)", x.count(1), 28);
        Check.lay(x, "xx");
        Check.due("count(0)", x.count(0), 2);
        x.leg(0, 0);
        Check.due("count(2)", x.count(2), 1);
        Check.feed(x, "abc");
        Check.due("count(3)", x.count(3), 3);
        x.turn(1);
        Check.due("count(4)", x.count(4), 1);
        x.box(7, 0);
        x.joint(5, 0);
        x.gap(5);
        x.sign(1000001, 0);
        x.turn(-3);
        x.table(0, -401);
        x.rings(7, true);
        x.nearest(6);
        x.opens(9, true);
        Check.dueRefusals("count", x, 2, 1, 1, 2, 0, 3);
        int[] none = {-1, 5, 10, 17, -9, Integer.MAX_VALUE, Integer.MIN_VALUE, -2147483637};
        for (int what : none) {
            Check.due("count(" + what + ")", x.count(what), -9);
        }
        Check.dueRefusals("count of another what", x, 2, 1, 1, 2, 0, 3);
    }
}
