/**
 * Promises 10 to 17: each sentence of the document that names a boundary has a test of its own
 * here, on both sides of it where there are two.
 */
public final class BoundsOfPlaces {
    private static final int MOST = 1000000;
    private static final int LEAST = Integer.MIN_VALUE;
    private static final int GREATEST = Integer.MAX_VALUE;
    // Whole and root whose difference is nearest to 0, by turns below and above it.
    private static final int[][] NEAR_ROOTS = {{1, 1}, {3, 2}, {7, 5}, {17, 12}, {41, 29}, {99, 70}, {239, 169},
        {577, 408}, {1393, 985}, {3363, 2378}, {8119, 5741}, {19601, 13860}, {47321, 33461}, {114243, 80782},
        {275807, 195025}, {665857, 470832}};

    public static void main(String[] args) {
        signOfEachQuarter();
        signOfNearRoots();
        signWithin();
        signOfMinusOneIsNoRefusal();
        gapParts();
        gapOfNone();
        gapOfEachPart();
        gapOfTheLastJoint();
        gapGreatest();
        nearerIsBelow();
        nearerExactly();
        nearerToNone();
        nearerWithin();
        nearerOrderOfRefusals();
        nearerToFarRows();
        tableSides();
        tableValues();
        tableOrderOfRefusals();
        tableTellsWhatItWas();
        tableLeftAboveRight();
        legWithin();
        legSixAtMost();
        legOrderOfRefusals();
        legTwiceAtOnePlace();
        legPlaces();
        offEdgesAreOnTheTable();
        offEdgesByRoots();
        offFirstJoint();
        offAtTheBeginning();
        offAtLegs();
        offLegsInWholeParts();
        offEachLegCounts();
        offOf24();
        touchesNeedsEachPart();
        touchesAtJointsAlone();
        touchesFirstJoint();
        touchesHome();
        touchesCrossings();
        touchesThreeCrossings();
        touchesWhatComesBehind();
        touchesAtTheBeginningByCrossings();
        touchesOf24();
        liesNeedsBoth();
        liesOfNone();
        Check.end("the bounds of promises 10 to 17 hold");
    }

    private static void dueSign(TrackBox x, int whole, int root, int want) {
        Check.due("sign(" + whole + ", " + root + ")", x.sign(whole, root), want);
    }

    private static void dueNearer(TrackBox x, int whole, int root, int want) {
        Check.due("nearer(" + whole + ", " + root + ")", x.nearer(whole, root), want);
    }

    private static void signOfEachQuarter() {
        Check.sentence("SIGN of a NUMBER: -1, 0, 1");
        TrackBox x = new TrackBox();
        dueSign(x, 0, 0, 0);
        dueSign(x, 1, 0, 1);
        dueSign(x, -1, 0, -1);
        dueSign(x, 0, 1, 1);
        dueSign(x, 0, -1, -1);
        dueSign(x, 1, 1, 1);
        dueSign(x, -1, -1, -1);
        dueSign(x, 2, -1, 1);
        dueSign(x, -2, 1, -1);
        dueSign(x, 1, -1, -1);
        dueSign(x, -1, 1, 1);
        dueSign(x, 1, -2, -1);
        dueSign(x, -1, 2, 1);
    }

    private static void signOfNearRoots() {
        Check.sentence("SIGN: exactly");
        TrackBox x = new TrackBox();
        for (int i = 0; i < NEAR_ROOTS.length; i++) {
            int whole = NEAR_ROOTS[i][0];
            int root = NEAR_ROOTS[i][1];
            int sign = i % 2 == 0 ? -1 : 1;
            dueSign(x, whole, -root, sign);
            dueSign(x, -whole, root, -sign);
            dueSign(x, whole, root, 1);
            dueSign(x, -whole, -root, -1);
            dueSign(x, whole + 1, -root, 1);
            dueSign(x, whole - 1, -root, -1);
        }
        dueSign(x, MOST, -707106, 1);
        dueSign(x, MOST, -707107, -1);
        dueSign(x, -MOST, 707106, -1);
        dueSign(x, -MOST, 707107, 1);
    }

    private static void signWithin() {
        Check.sentence("Promise 10: each part within -1000000 .. 1000000, -3");
        TrackBox x = new TrackBox();
        dueSign(x, MOST, 0, 1);
        dueSign(x, -MOST, 0, -1);
        dueSign(x, 0, MOST, 1);
        dueSign(x, 0, -MOST, -1);
        dueSign(x, MOST, MOST, 1);
        dueSign(x, -MOST, -MOST, -1);
        dueSign(x, MOST, -MOST, -1);
        dueSign(x, -MOST, MOST, 1);
        Check.dueRefusals("sign within", x, 0, 0, 0, 0, 0, 0);
        int[] beyond = {MOST + 1, -MOST - 1, GREATEST, LEAST};
        for (int part : beyond) {
            dueSign(x, part, 0, -3);
            dueSign(x, 0, part, -3);
            dueSign(x, part, part, -3);
            dueSign(x, part, -MOST, -3);
            dueSign(x, MOST, part, -3);
        }
        Check.dueRefusals("sign beyond", x, 0, 0, 20, 0, 0, 0);
    }

    private static void signOfMinusOneIsNoRefusal() {
        Check.sentence("Promise 10: answers -1, 0, 1 else, which is no REFUSAL");
        TrackBox x = new TrackBox();
        dueSign(x, -5, 0, -1);
        dueSign(x, 7, -5, -1);
        Check.dueRefusals("sign", x, 0, 0, 0, 0, 0, 0);
    }

    private static void dueGap(TrackBox x, String text, int whole, int root) {
        Check.lay(x, text);
        Check.due("gap(0) of " + text, x.gap(0), whole);
        Check.due("gap(1) of " + text, x.gap(1), root);
    }

    private static void gapParts() {
        Check.sentence("Promise 11: part 0 or 1, -2");
        TrackBox x = new TrackBox();
        dueGap(x, "l", 128, -64);
        Check.due("gap(-1)", x.gap(-1), Check.FAR + 2);
        Check.due("gap(2)", x.gap(2), Check.FAR + 2);
        Check.due("gap(least)", x.gap(LEAST), Check.FAR + 2);
        Check.due("gap(greatest)", x.gap(GREATEST), Check.FAR + 2);
        Check.dueRefusals("gap", x, 0, 4, 0, 0, 0, 0);
    }

    private static void gapOfNone() {
        Check.sentence("GAP of a ROW of none, and of one that closes");
        TrackBox x = new TrackBox();
        dueGap(x, "", 0, 0);
        dueGap(x, "qqqq", 0, 0);
        dueGap(x, "llllllll", 0, 0);
        dueGap(x, "aqqqa", 0, 0);
        x.row();
        Check.due("gap(0) of none behind others", x.gap(0), 0);
        Check.due("gap(1) of none behind others", x.gap(1), 0);
    }

    private static void gapOfEachPart() {
        Check.sentence("GAP: the square, of each part and of both");
        TrackBox x = new TrackBox();
        dueGap(x, "c", 4, 0);
        dueGap(x, "a", 64, 0);
        dueGap(x, "ltl", 512, 0);
        dueGap(x, "ttqq", 1024, 0);
        dueGap(x, "qqlmml", 32, 0);
        dueGap(x, "al", 192, 0);
        dueGap(x, "lb", 144, -32);
        dueGap(x, "qqal", 192, 128);
        dueGap(x, "qqar", 704, -128);
        dueGap(x, "r", 128, -64);
    }

    private static void gapOfTheLastJoint() {
        Check.sentence("GAP: of the last JOINT, whatever its DIRECTION");
        TrackBox x = new TrackBox();
        dueGap(x, "a", 64, 0);
        dueGap(x, "aa", 256, 0);
        dueGap(x, "q", 128, 0);
        dueGap(x, "qq", 256, 0);
        dueGap(x, "qqq", 128, 0);
        dueGap(x, "qqqqc", 4, 0);
    }

    private static void gapGreatest() {
        Check.sentence("GAP: of the longest rows, too");
        TrackBox x = new TrackBox();
        Check.sizes(x, 20, 20, 20, 20, 20, 20, 20);
        dueGap(x, Check.repeated("x", 24), 960 * 960, 0);
        dueGap(x, Check.repeated("qt", 12), 2 * 960 * 960, 0);
        dueGap(x, "l" + Check.repeated("x", 23), 2 * 480 * 480 + 40 * 40 + 2 * 440 * 440, 2 * 40 * 440);
        dueGap(x, "r" + Check.repeated("x", 23), 2 * 480 * 480 + 40 * 40 + 2 * 440 * 440, 2 * 40 * 440);
    }

    private static void nearerIsBelow() {
        Check.sentence("NEARER: whether the GAP is below a NUMBER told");
        TrackBox x = Check.laid("l");
        dueNearer(x, 128, -64, 0);
        dueNearer(x, 129, -64, 1);
        dueNearer(x, 127, -64, 0);
        dueNearer(x, 128, -63, 1);
        dueNearer(x, 128, -65, 0);
        dueNearer(x, 37, 0, 0);
        dueNearer(x, 38, 0, 1);
        dueNearer(x, 0, 26, 0);
        dueNearer(x, 0, 27, 1);
        dueNearer(x, -128, 64, 0);
    }

    private static void nearerExactly() {
        Check.sentence("NEARER: exactly");
        TrackBox x = Check.laid("l");
        for (int i = 0; i < NEAR_ROOTS.length; i++) {
            int above = i % 2 == 0 ? 0 : 1;
            dueNearer(x, 128 + NEAR_ROOTS[i][0], -64 - NEAR_ROOTS[i][1], above);
            dueNearer(x, 128 - NEAR_ROOTS[i][0], -64 + NEAR_ROOTS[i][1], 1 - above);
        }
    }

    private static void nearerToNone() {
        Check.sentence("NEARER: a GAP of 0 is below numbers above 0");
        TrackBox x = new TrackBox();
        dueNearer(x, 0, 0, 0);
        dueNearer(x, 1, 0, 1);
        dueNearer(x, 0, 1, 1);
        dueNearer(x, -1, 0, 0);
        dueNearer(x, 0, -1, 0);
        dueNearer(x, -1, 1, 1);
        dueNearer(x, 1, -1, 0);
        Check.lay(x, "qqqq");
        dueNearer(x, 0, 0, 0);
        dueNearer(x, 1, 0, 1);
    }

    private static void nearerWithin() {
        Check.sentence("Promise 12: parts within -1000000 .. 1000000, -4, -6");
        TrackBox x = Check.laid("a");
        dueNearer(x, MOST, MOST, 1);
        dueNearer(x, -MOST, -MOST, 0);
        dueNearer(x, MOST, -MOST, 0);
        dueNearer(x, -MOST, MOST, 1);
        Check.dueRefusals("nearer within", x, 0, 0, 0, 0, 0, 0);
        dueNearer(x, MOST + 1, 0, -6);
        dueNearer(x, 0, MOST + 1, -6);
        dueNearer(x, GREATEST, 0, -6);
        dueNearer(x, 0, GREATEST, -6);
        Check.dueRefusals("nearer above", x, 0, 0, 0, 0, 0, 4);
        dueNearer(x, -MOST - 1, 0, -4);
        dueNearer(x, 0, -MOST - 1, -4);
        dueNearer(x, LEAST, 0, -4);
        dueNearer(x, 0, LEAST, -4);
        Check.dueRefusals("nearer below", x, 0, 0, 0, 4, 0, 4);
    }

    private static void nearerOrderOfRefusals() {
        Check.sentence("Promise 12: -4 ahead of -6");
        TrackBox x = new TrackBox();
        dueNearer(x, MOST + 1, -MOST - 1, -4);
        dueNearer(x, -MOST - 1, MOST + 1, -4);
        dueNearer(x, GREATEST, LEAST, -4);
        dueNearer(x, LEAST, GREATEST, -4);
        Check.dueRefusals("nearer", x, 0, 0, 0, 4, 0, 0);
    }

    private static void nearerToFarRows() {
        Check.sentence("NEARER: of a GAP above 1000000, too");
        TrackBox x = new TrackBox();
        Check.sizes(x, 20, 20, 20, 20, 20, 20, 20);
        Check.lay(x, Check.repeated("qt", 12));
        dueNearer(x, MOST, 0, 0);
        dueNearer(x, 0, MOST, 0);
        dueNearer(x, MOST, 596232, 0);
        dueNearer(x, MOST, 596233, 1);
        dueNearer(x, MOST, MOST, 1);
    }

    private static void tableSides() {
        Check.sentence("Promise 13: sides 0 .. 3, -2");
        TrackBox x = new TrackBox();
        Check.due("table(-1, 0)", x.table(-1, 0), Check.FAR + 2);
        Check.due("table(4, 0)", x.table(4, 0), Check.FAR + 2);
        Check.due("table(least, 0)", x.table(LEAST, 0), Check.FAR + 2);
        Check.due("table(greatest, 0)", x.table(GREATEST, 0), Check.FAR + 2);
        Check.dueRefusals("table", x, 0, 4, 0, 0, 0, 0);
        Check.due("table(0, 0)", x.table(0, 0), -400);
        Check.due("table(3, 0)", x.table(3, 0), 400);
    }

    private static void tableValues() {
        Check.sentence("Promise 13: -400 .. 400, -4, -6");
        TrackBox x = new TrackBox();
        for (int side = 0; side < 4; side++) {
            Check.due("table(" + side + ", 400)", x.table(side, 400), side % 2 == 0 ? -400 : 400);
            Check.due("table(" + side + ", 401)", x.table(side, 401), Check.FAR + 6);
            Check.due("table(" + side + ", greatest)", x.table(side, GREATEST), Check.FAR + 6);
            Check.due("table(" + side + ", -400)", x.table(side, -400), 400);
            Check.due("table(" + side + ", -401)", x.table(side, -401), Check.FAR + 4);
            Check.due("table(" + side + ", least)", x.table(side, LEAST), Check.FAR + 4);
            Check.due("table(" + side + ", 0)", x.table(side, 0), -400);
        }
        Check.dueRefusals("table", x, 0, 0, 0, 8, 0, 8);
    }

    private static void tableOrderOfRefusals() {
        Check.sentence("Promise 13: -2 ahead of -4 and -6");
        TrackBox x = new TrackBox();
        Check.due("table(-1, -401)", x.table(-1, -401), Check.FAR + 2);
        Check.due("table(-1, 401)", x.table(-1, 401), Check.FAR + 2);
        Check.due("table(4, -401)", x.table(4, -401), Check.FAR + 2);
        Check.due("table(4, 401)", x.table(4, 401), Check.FAR + 2);
        Check.dueRefusals("table", x, 0, 4, 0, 0, 0, 0);
    }

    private static void tableTellsWhatItWas() {
        Check.sentence("Promise 13: a side becomes v: what it was");
        TrackBox x = new TrackBox();
        for (int side = 0; side < 4; side++) {
            x.table(side, 10 + side);
        }
        for (int side = 0; side < 4; side++) {
            Check.due("table(" + side + ", 20)", x.table(side, 20 + side), 10 + side);
            Check.due("table(" + side + ", 20)", x.table(side, 20 + side), 20 + side);
        }
    }

    private static void tableLeftAboveRight() {
        Check.sentence("TABLE: LEFT may be above RIGHT");
        TrackBox x = Check.laid("qqqq");
        Check.due("table(0, 400)", x.table(0, 400), -400);
        Check.due("table(1, -400)", x.table(1, -400), 400);
        Check.due("off()", x.off(), 0);
        Check.due("table(0, 0)", x.table(0, 0), 400);
        Check.due("off()", x.off(), 0);
        Check.due("table(1, 0)", x.table(1, 0), -400);
        Check.due("off() on a table of one line", x.off(), 1);
        Check.due("table(2, 400)", x.table(2, 400), -400);
        Check.due("table(3, -400)", x.table(3, -400), 400);
        Check.due("off()", x.off(), 0);
        Check.dueRefusals("table", x, 0, 0, 0, 0, 0, 0);
    }

    private static void legWithin() {
        Check.sentence("Promise 14: -400 .. 400, -4, -6");
        TrackBox x = new TrackBox();
        Check.due("leg(-401, 0)", x.leg(-401, 0), -4);
        Check.due("leg(0, -401)", x.leg(0, -401), -4);
        Check.due("leg(least, 0)", x.leg(LEAST, 0), -4);
        Check.due("leg(0, least)", x.leg(0, LEAST), -4);
        Check.dueRefusals("leg below", x, 0, 0, 0, 4, 0, 0);
        Check.due("leg(401, 0)", x.leg(401, 0), -6);
        Check.due("leg(0, 401)", x.leg(0, 401), -6);
        Check.due("leg(greatest, 0)", x.leg(GREATEST, 0), -6);
        Check.due("leg(0, greatest)", x.leg(0, GREATEST), -6);
        Check.dueRefusals("leg above", x, 0, 0, 0, 4, 0, 4);
        Check.due("count(2)", x.count(2), 0);
        Check.due("leg(-400, -400)", x.leg(-400, -400), 1);
        Check.due("leg(400, 400)", x.leg(400, 400), 2);
        Check.due("leg(-400, 400)", x.leg(-400, 400), 3);
        Check.due("leg(400, -400)", x.leg(400, -400), 4);
        Check.due("count(2)", x.count(2), 4);
    }

    private static void legSixAtMost() {
        Check.sentence("LEG: 6 at most, -6");
        TrackBox x = new TrackBox();
        for (int i = 1; i <= 6; i++) {
            Check.due("a leg more", x.leg(i, 3), i);
        }
        Check.due("a seventh leg", x.leg(7, 3), -6);
        Check.due("a seventh leg where one is", x.leg(1, 3), -6);
        Check.due("count(2)", x.count(2), 6);
        Check.dueRefusals("leg", x, 0, 0, 0, 0, 0, 2);
    }

    private static void legOrderOfRefusals() {
        Check.sentence("Promise 14: -4 ahead of -6");
        TrackBox x = new TrackBox();
        Check.due("leg(401, -401)", x.leg(401, -401), -4);
        Check.due("leg(-401, 401)", x.leg(-401, 401), -4);
        Check.due("leg(-401, -401)", x.leg(-401, -401), -4);
        Check.due("leg(401, 401)", x.leg(401, 401), -6);
        for (int i = 1; i <= 6; i++) {
            x.leg(i, i);
        }
        Check.due("leg(-401, 0), a seventh", x.leg(-401, 0), -4);
        Check.due("leg(0, -401), a seventh", x.leg(0, -401), -4);
        Check.due("leg(401, 0), a seventh", x.leg(401, 0), -6);
        Check.dueRefusals("leg", x, 0, 0, 0, 5, 0, 2);
    }

    private static void legTwiceAtOnePlace() {
        Check.sentence("Promise 14: a LEG more: how many");
        TrackBox x = new TrackBox();
        for (int i = 1; i <= 6; i++) {
            Check.due("leg(8, 0)", x.leg(8, 0), i);
        }
        Check.due("count(2)", x.count(2), 6);
    }

    private static void legPlaces() {
        Check.sentence("LEG: a PLACE from -400 to 400");
        TrackBox x = new TrackBox();
        Check.sizes(x, 20, 1, 20, 4, 6, 20, 1);
        Check.lay(x, Check.repeated("a", 10));
        x.leg(399, 0);
        x.leg(400, 1);
        Check.due("off() beside LEGS", x.off(), -9);
        x.leg(400, 0);
        Check.due("off() at 400, 0", x.off(), 10);
        Check.lay(x, "q" + Check.repeated("a", 9));
        x.leg(40, 400);
        Check.due("off() at 40, 400", x.off(), 10);
        Check.lay(x, "t" + Check.repeated("a", 9));
        x.leg(40, -400);
        Check.due("off() at 40, -400", x.off(), 10);
        Check.lay(x, "qq" + Check.repeated("a", 10));
        x.leg(-400, 80);
        Check.due("off() at -400, 80", x.off(), 12);
    }

    /** A side at the value last on the table and the one beyond: off() in both cases. */
    private static void dueEdge(String text, int side, int on, int beyond, int joint) {
        TrackBox x = Check.laid(text);
        x.table(side, on);
        Check.due("off() of " + text + ", side " + side + " at " + on, x.off(), -9);
        x.table(side, beyond);
        Check.due("off() of " + text + ", side " + side + " at " + beyond, x.off(), joint);
    }

    private static void offEdgesAreOnTheTable() {
        Check.sentence("TABLE: edges are on it");
        dueEdge("qq", 1, 8, 7, 1);
        dueEdge("qqa", 0, -8, -7, 3);
        dueEdge("qq", 3, 16, 15, 2);
        dueEdge("tt", 2, -16, -15, 2);
        dueEdge("qqqq", 0, -8, -7, 3);
        dueEdge("tttt", 0, -8, -7, 3);
        dueEdge("c", 1, 2, 1, 1);
        dueEdge("", 0, 0, 1, 0);
        dueEdge("", 1, 0, -1, 0);
        dueEdge("", 2, 0, 1, 0);
        dueEdge("", 3, 0, -1, 0);
        dueEdge("aq", 0, 0, 1, 0);
        dueEdge("aq", 2, 0, 1, 0);
    }

    private static void offEdgesByRoots() {
        Check.sentence("TABLE: edges and places with ROOT parts");
        dueEdge("l", 1, 6, 5, 1);
        dueEdge("l", 3, 3, 2, 1);
        dueEdge("r", 2, -3, -2, 1);
        dueEdge("qql", 0, -6, -5, 3);
        dueEdge("al", 1, 14, 13, 2);
        dueEdge("lll", 3, 14, 13, 3);
        dueEdge("rrr", 2, -14, -13, 3);
        dueEdge("qqqlb", 2, -1, 0, 5);
        dueEdge("ltl", 1, 23, 22, 3);
        Check.sentence("TABLE: edges and places with ROOT parts, exactly");
        for (int beyond = 0; beyond < 2; beyond++) {
            TrackBox x = new TrackBox();
            x.size(0, 20);
            x.size(1, 5);
            x.size(2, 6);
            Check.lay(x, "laaaaaaaab");
            Check.dueJoint(x, 10, 0, 169, 8, 161, 1);
            x.table(1, 240 - beyond);
            Check.due("off() of 169 roots, RIGHT at " + (240 - beyond), x.off(), beyond == 0 ? -9 : 10);
            Check.lay(x, "laaac");
            Check.dueJoint(x, 5, 0, 70, 8, 62, 1);
            x.table(1, 99 - beyond);
            Check.due("off() of 70 roots, RIGHT at " + (99 - beyond), x.off(), beyond == 0 ? -9 : 5);
        }
    }

    private static void offFirstJoint() {
        Check.sentence("OFF: the first JOINT");
        TrackBox x = Check.laid("aaaa");
        int[] joints = {1, 1, 2, 3, 4, -9};
        int[] rights = {0, 7, 8, 23, 31, 32};
        for (int i = 0; i < joints.length; i++) {
            x.table(1, rights[i]);
            Check.due("off() with RIGHT at " + rights[i], x.off(), joints[i]);
        }
        x.leg(32, 0);
        Check.due("off() with a LEG at the last", x.off(), 4);
        x.leg(16, 0);
        Check.due("off() with a LEG ahead of it", x.off(), 2);
        x.table(1, 15);
        Check.due("off() with a LEG off the table", x.off(), 2);
        x.table(1, 7);
        Check.due("off() with a LEG behind the edge", x.off(), 1);
    }

    private static void offAtTheBeginning() {
        Check.sentence("OFF: JOINT 0 counts");
        TrackBox x = Check.laid("qq");
        x.leg(0, 0);
        Check.due("off() with a LEG at 0, 0", x.off(), 0);
        Check.lay(x, "");
        x.row();
        Check.due("off() of none with a LEG at 0, 0", x.off(), 0);
        TrackBox y = Check.laid("qq");
        y.table(0, 1);
        Check.due("off() with LEFT at 1", y.off(), 0);
        y.row();
        Check.due("off() of none with LEFT at 1", y.off(), 0);
        y.table(0, 0);
        Check.due("off() of none with LEFT at 0", y.off(), -9);
    }

    private static void offAtLegs() {
        Check.sentence("OFF: at a LEG");
        int[][] beside = {{8, 7}, {8, 9}, {7, 8}, {9, 8}, {-8, 8}, {8, -8}};
        TrackBox x = Check.laid("q");
        for (int[] place : beside) {
            x.leg(place[0], place[1]);
            Check.due("off() beside a LEG", x.off(), -9);
        }
        TrackBox y = Check.laid("q");
        y.leg(8, 8);
        Check.due("off() at a LEG", y.off(), 1);
        Check.lay(y, "t");
        Check.due("off() of t", y.off(), -9);
        Check.lay(y, "qqqqq");
        Check.due("off() of qqqqq", y.off(), 1);
    }

    private static void offLegsInWholeParts() {
        Check.sentence("LEG: a PLACE in WHOLE parts");
        TrackBox x = Check.laid("l");
        x.leg(0, 8);
        x.leg(0, 4);
        x.leg(6, 2);
        x.leg(5, 2);
        Check.due("off() of l", x.off(), -9);
        Check.lay(x, "la");
        Check.dueJoint(x, 2, 0, 8, 8, 0, 1);
        Check.due("off() of la: x by a root", x.off(), -9);
        Check.lay(x, "qqlmml");
        Check.dueJoint(x, 6, 0, 0, 0, -4, 0);
        TrackBox y = Check.laid("qqlmml");
        y.leg(0, -4);
        y.leg(0, -6);
        Check.due("off() of qqlmml: y by a root", y.off(), -9);
        y.leg(0, 16);
        Check.due("off() of qqlmml at 0, 16", y.off(), 2);
        TrackBox z = Check.laid("ll");
        Check.dueJoint(z, 2, 8, 0, 8, 0, 2);
        z.leg(8, 8);
        Check.due("off() of ll, whole again", z.off(), 2);
    }

    private static void offEachLegCounts() {
        Check.sentence("LEG: 6 at most, and each counts");
        for (int at = 0; at < 6; at++) {
            TrackBox x = Check.laid("qa");
            for (int i = 0; i < 6; i++) {
                Check.due("off() ahead of the LEG", x.off(), i > at ? 2 : -9);
                x.leg(i == at ? 8 : 30 + i, i == at ? 16 : 30);
            }
            Check.due("off() at LEG " + at, x.off(), 2);
            x.leg(0, 0);
            Check.due("off() with a seventh LEG refused", x.off(), 2);
            Check.lay(x, "t");
            Check.due("off() away from all LEGS", x.off(), -9);
        }
    }

    private static void offOf24() {
        Check.sentence("OFF: of 24 PIECES, too");
        TrackBox x = Check.laid(Check.repeated("c", 24));
        x.leg(48, 0);
        Check.due("off() at the last", x.off(), 24);
        x.size(2, 9);
        Check.due("off() over RIGHT of 400", x.off(), 23);
        x.table(1, 1);
        Check.due("off() over RIGHT of 1", x.off(), 1);
        TrackBox y = Check.laid(Check.repeated("c", 24));
        y.table(1, 48);
        Check.due("off() at RIGHT", y.off(), -9);
        y.table(1, 47);
        Check.due("off() over RIGHT", y.off(), 24);
    }

    private static void dueTouch(String text, int want) {
        Check.due("touches() of " + text, Check.laid(text).touches(), want);
    }

    private static void touchesNeedsEachPart() {
        Check.sentence("TOUCHES: where an earlier JOINT is, by each part");
        dueTouch("a", -9);
        dueTouch("ltl", -9);
        dueTouch("ttqq", -9);
        dueTouch("qqlmml", -9);
        dueTouch("la", -9);
        dueTouch("ra", -9);
        dueTouch("aqqqa", 5);
        dueTouch("laqqqa", 6);
        dueTouch("lcqqqa", -9);
    }

    private static void touchesAtJointsAlone() {
        Check.sentence("TOUCHES: a JOINT where a JOINT is");
        TrackBox x = new TrackBox();
        x.size(5, 2);
        Check.lay(x, "aqqqa");
        Check.dueJoint(x, 4, 4, 0, 4, 0, 6);
        Check.dueJoint(x, 5, 4, 0, -4, 0, 6);
        Check.due("touches() where only straights cross", x.touches(), -9);
        Check.lay(x, "bbqqqbb");
        Check.due("touches() where joints are, too", x.touches(), 6);
    }

    private static void touchesFirstJoint() {
        Check.sentence("TOUCHES: the first JOINT that is where an earlier one is");
        dueTouch("qqqqa", 4);
        dueTouch("aqqqqa", 5);
        dueTouch("qqqqqqqq", 4);
        dueTouch("aqqqaattta", 5);
        dueTouch("aaqqqaa", 6);
        dueTouch("aaaqqqaa", 7);
        dueTouch("aqqqq", 5);
        dueTouch("qqqqq", 4);
    }

    private static void touchesHome() {
        Check.sentence("TOUCHES: the last one at the beginning, if it CLOSES, does not count");
        dueTouch("qqqq", -9);
        dueTouch("tttt", -9);
        dueTouch("aqqaqq", -9);
        dueTouch("llllllll", -9);
        Check.sentence("TOUCHES: the last one at the beginning counts, if it does not CLOSE");
        dueTouch("aqqqa", 5);
        dueTouch("attta", 5);
        Check.sentence("TOUCHES: one at the beginning that is not the last counts, if it CLOSES");
        dueTouch("qqqqtttt", 4);
        dueTouch("aqqqaattta", 5);
        Check.sentence("TOUCHES: the last one at an earlier one that is not the beginning counts");
        dueTouch("aqqqq", 5);
        dueTouch("bqqqq", 5);
    }

    private static void touchesCrossings() {
        Check.sentence("TOUCHES: none, if CROSSINGS lead to both");
        dueTouch("bxaqqqx", -9);
        dueTouch("bxxqqqx", -9);
        dueTouch("baaqqqx", 7);
        dueTouch("bxaqqqa", 7);
        dueTouch("baaqqqa", 7);
        dueTouch("xaqqqxattt", -9);
        dueTouch("xaqqqaattt", 6);
        dueTouch("aaqqqxattt", 6);
        dueTouch("xaqqqxaxqqqx", 12);
        dueTouch("xaqqqxxaqqqx", -9);
        Check.sentence("TOUCHES: only CROSSINGS take others across");
        dueTouch("bqaqqa", -9);
        TrackBox x = Check.laid("baaqqqa");
        x.size(6, 20);
        Check.due("touches() of a straight as long", x.touches(), 7);
        x.size(0, 4);
        x.size(6, 4);
        Check.lay(x, "bxaqqqxa");
        Check.due("touches() of bxaqqqxa", x.touches(), -9);
    }

    private static void touchesThreeCrossings() {
        Check.sentence("TOUCHES: none, if CROSSINGS lead to each of three");
        TrackBox x = new TrackBox();
        Check.sizes(x, 6, 2, 4, 4, 6, 4, 4);
        Check.lay(x, "xassssssbxctttx");
        Check.dueJoint(x, 1, 8, 0, 0, 0, 0);
        Check.dueJoint(x, 10, 8, 0, 0, 0, 2);
        Check.dueJoint(x, 15, 8, 0, 0, 0, 4);
        Check.due("touches() of three CROSSINGS", x.touches(), -9);
        Check.lay(x, "xassssssbxctttc");
        Check.due("touches() of a straight as the third", x.touches(), 15);
        Check.lay(x, "xassssssbcctttx");
        Check.due("touches() of a straight as the second", x.touches(), 10);
        Check.lay(x, "cassssssbxctttx");
        Check.due("touches() of a straight as the first", x.touches(), 10);
    }

    private static void touchesWhatComesBehind() {
        Check.sentence("TOUCHES: which PIECE comes behind a JOINT does not matter");
        dueTouch("baxqqqx", 7);
        dueTouch("baxqqqax", 7);
        dueTouch("bxaqqqax", 7);
        dueTouch("bxaqqqxx", -9);
        dueTouch("bxxqqqxa", -9);
    }

    private static void touchesAtTheBeginningByCrossings() {
        Check.sentence("TOUCHES: no PIECE leads to JOINT 0");
        dueTouch("xqqqx", 5);
        dueTouch("xtttx", 5);
        dueTouch("xqqqxa", 5);
        dueTouch("xqqqxxtttx", 5);
    }

    private static void touchesOf24() {
        Check.sentence("TOUCHES: of 24 PIECES, too");
        dueTouch(Check.repeated("c", 24), -9);
        dueTouch(Check.repeated("c", 16) + "qqqqaaaa", 20);
        dueTouch(Check.repeated("b", 19) + "bqqqb", -9);
        dueTouch(Check.repeated("b", 19) + "bqqqa", 24);
        dueTouch(Check.repeated("b", 19) + "bqqqx", 24);
        dueTouch(Check.repeated("b", 17) + "xbbqqqx", -9);
        dueTouch(Check.repeated("b", 17) + "xbbqqqa", 24);
        dueTouch("bbbbbbbbbbqqbbbbbbbbbbqq", -9);
    }

    private static void liesNeedsBoth() {
        Check.sentence("LIES: OFF and TOUCHES are none");
        TrackBox x = Check.laid("qqqq");
        Check.due("lies()", x.lies(), 1);
        x.table(3, 16);
        Check.due("lies() at the edge", x.lies(), 1);
        x.table(3, 15);
        Check.due("lies() over the edge", x.lies(), 0);
        x.table(3, 16);
        x.leg(8, 8);
        Check.due("lies() at a LEG", x.lies(), 0);
        TrackBox y = Check.laid("qqqqq");
        Check.due("lies() on itself", y.lies(), 0);
        y.table(3, 15);
        Check.due("lies() on itself and over the edge", y.lies(), 0);
        Check.lay(y, "a");
        Check.due("lies() of another row", y.lies(), 1);
        Check.lay(y, "bxaqqqx");
        Check.due("lies() over the edge with CROSSINGS", y.lies(), 0);
        y.table(3, 16);
        Check.due("lies() with CROSSINGS", y.lies(), 1);
        Check.lay(y, "bxaqqqa");
        Check.due("lies() on itself behind a CROSSING", y.lies(), 0);
    }

    private static void liesOfNone() {
        Check.sentence("LIES: a ROW of none lies where 0, 0 is on the table and no LEG");
        TrackBox x = new TrackBox();
        Check.due("lies()", x.lies(), 1);
        x.table(1, 0);
        Check.due("lies() at RIGHT", x.lies(), 1);
        x.table(1, -1);
        Check.due("lies() over RIGHT", x.lies(), 0);
        x.table(1, 0);
        x.leg(0, 0);
        Check.due("lies() at a LEG", x.lies(), 0);
    }
}
