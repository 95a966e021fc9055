/**
 * Promises 1 to 9: each sentence of the document that names a boundary has a test of its own here,
 * on both sides of it where there are two.
 */
public final class BoundsOfRows {
    private static final int[] SIZES = {4, 2, 1, 4, 6, 4, 4};
    private static final int LEAST = Integer.MIN_VALUE;
    private static final int GREATEST = Integer.MAX_VALUE;

    // How a letter of length 4 leads from DIRECTION 0 .. 7: x whole, x root, y whole, y root.
    private static final int[][] STRAIGHT = {{8, 0, 0, 0}, {0, 4, 0, 4}, {0, 0, 8, 0}, {0, -4, 0, 4},
        {-8, 0, 0, 0}, {0, -4, 0, -4}, {0, 0, -8, 0}, {0, 4, 0, -4}};
    private static final int[][] EIGHTH_LEFT = {{0, 4, 8, -4}, {8, -4, 0, 4}, {-8, 4, 0, 4}, {0, -4, 8, -4},
        {0, -4, -8, 4}, {-8, 4, 0, -4}, {8, -4, 0, -4}, {0, 4, -8, 4}};
    private static final int[][] EIGHTH_RIGHT = {{0, 4, -8, 4}, {0, 4, 8, -4}, {8, -4, 0, 4}, {-8, 4, 0, 4},
        {0, -4, 8, -4}, {0, -4, -8, 4}, {-8, 4, 0, -4}, {8, -4, 0, -4}};
    private static final int[][] QUARTER_LEFT = {{8, 0, 8, 0}, {0, 0, 0, 8}, {-8, 0, 8, 0}, {0, -8, 0, 0},
        {-8, 0, -8, 0}, {0, 0, 0, -8}, {8, 0, -8, 0}, {0, 8, 0, 0}};
    private static final int[][] QUARTER_RIGHT = {{8, 0, -8, 0}, {0, 8, 0, 0}, {8, 0, 8, 0}, {0, 0, 0, 8},
        {-8, 0, 8, 0}, {0, -8, 0, 0}, {-8, 0, -8, 0}, {0, 0, 0, -8}};

    public static void main(String[] args) {
        newBoxIsEmpty();
        newSizes();
        newRowIsOfNone();
        newTable();
        newObjectHasNoneOfTheRest();
        objectsAreApart();
        objectsLastForAllCalls();
        feedBelowOne();
        feedAboveEight();
        feedAbove24();
        feedOrderOfRefusals();
        feedLowestFirst();
        feedLeavesTheRow();
        rowOfTheTape();
        rowLeavesNoTape();
        rowOfNone();
        rowOf24();
        rowLetters();
        rowFaultPlaces();
        rowFirstOfFaults();
        rowFaultChangesTheTapeAlone();
        boxKinds();
        boxMany();
        boxOrderOfRefusals();
        boxTellsWhatItWas();
        sizeKinds();
        sizeValues();
        sizeOrderOfRefusals();
        sizeTellsWhatItWas();
        sizeIsOfItsKindAlone();
        pieceOfTheRow();
        pieceNoneSuch();
        pieceBehindAShorterRow();
        jointNumbers();
        jointWhats();
        jointOrderOfRefusals();
        jointOfARowOfNone();
        jointOf24();
        jointStraightsTurned();
        jointBendsTurned();
        jointDirectionsWrap();
        jointSizes();
        closesNeedsAPiece();
        closesNeedsDirection0();
        closesNeedsEachPart();
        closesAtTheLastJointAlone();
        closesOf24();
        usesOfNone();
        usesOfEachKind();
        usesLeftAndRightAsOne();
        usesOf24();
        Check.end("the bounds of promises 1 to 9 hold");
    }

    private static void newBoxIsEmpty() {
        Check.sentence("Promise 1: an empty BOX");
        TrackBox x = new TrackBox();
        Check.due("count(1)", x.count(1), 0);
        for (int kind = 0; kind < 7; kind++) {
            Check.due("box(" + kind + ", 1)", x.box(kind, 1), 0);
        }
        Check.due("count(1)", x.count(1), 7);
    }

    private static void newSizes() {
        Check.sentence("The box: 4, 2, 1, 4, 6, 4, 4 at first");
        TrackBox x = new TrackBox();
        for (int kind = 0; kind < 7; kind++) {
            Check.due("size(" + kind + ", 9)", x.size(kind, 9), SIZES[kind]);
        }
        TrackBox y = Check.laid("a");
        for (int letter = 0; letter < 10; letter++) {
            int kind = new int[] {0, 1, 2, 3, 4, 3, 4, 5, 5, 6}[letter];
            boolean eighth = kind == 3 || kind == 4;
            Check.lay(y, Check.LETTERS.substring(letter, letter + 1));
            Check.due("joint(1, 0)", y.joint(1, 0), eighth ? 0 : 2 * SIZES[kind]);
            Check.due("joint(1, 1)", y.joint(1, 1), eighth ? SIZES[kind] : 0);
        }
    }

    private static void newRowIsOfNone() {
        Check.sentence("Promise 1: a ROW of none");
        TrackBox x = new TrackBox();
        Check.due("count(0)", x.count(0), 0);
        Check.due("piece(0)", x.piece(0), -9);
        Check.dueJoint(x, 0, 0, 0, 0, 0, 0);
        Check.due("joint(1, 0)", x.joint(1, 0), Check.FAR + 1);
        Check.due("closes()", x.closes(), 0);
        Check.due("uses()", x.uses(), 1);
        Check.due("image()", x.image(), 0);
    }

    private static void newTable() {
        Check.sentence("TABLE: -400 and 400 at first");
        TrackBox x = new TrackBox();
        Check.due("table(0, 1)", x.table(0, 1), -400);
        Check.due("table(1, 1)", x.table(1, 1), 400);
        Check.due("table(2, 1)", x.table(2, 1), -400);
        Check.due("table(3, 1)", x.table(3, 1), 400);
        Check.sentence("TABLE: 400 at first, and edges are on it");
        TrackBox y = Check.laid(Check.repeated("a", 10));
        y.size(0, 20);
        Check.due("off() at 400", y.off(), -9);
        y.size(1, 1);
        Check.lay(y, Check.repeated("a", 10) + "b");
        Check.due("off() at 402", y.off(), 11);
    }

    private static void newObjectHasNoneOfTheRest() {
        Check.sentence("Promise 1: no LEG, byte, TURN, REFUSAL, IMAGE at first");
        TrackBox x = new TrackBox();
        for (int what = 0; what <= 4; what++) {
            Check.due("count(" + what + ")", x.count(what), 0);
        }
        Check.dueRefusals("new", x, 0, 0, 0, 0, 0, 0);
        Check.due("off()", x.off(), -9);
        Check.due("photo()", x.photo(), 0);
        Check.due("on()", x.on(), -3);
        Check.due("leg(1, 1)", x.leg(1, 1), 1);
        Check.due("turn(0)", x.turn(0), 1);
        Check.due("feed(1, a)", x.feed(1, 97L), 1);
    }

    private static void objectsAreApart() {
        Check.sentence("Promise 1: a new object is new whatever others hold");
        TrackBox other = Check.boxed(9, 9, 9, 9, 9, 9, 9);
        Check.sizes(other, 20, 20, 20, 20, 20, 20, 20);
        other.leg(0, 0);
        other.table(0, 1);
        other.turn(2);
        Check.lay(other, "qqqq");
        other.image();
        other.feed(3, 0L);
        other.rings(6, true);
        newBoxIsEmpty();
        newSizes();
        newRowIsOfNone();
        newTable();
        newObjectHasNoneOfTheRest();
        Check.sentence("Promise 1: a new object is new whatever others hold");
        TrackBox x = Check.boxed(0, 0, 0, 2, 0, 3, 0);
        Check.due("rings(5, false)", x.rings(5, false), 2);
        Check.sizes(other, 20, 20, 20, 19, 20, 20, 20);
        other.rings(6, false);
        Check.due("rings(5, false)", x.rings(5, false), 2);
        Check.due("nearest(2)", x.nearest(2), 1);
        other.nearest(5);
        Check.dueRow("nearest(2)", x, "lr");
    }

    private static void objectsLastForAllCalls() {
        Check.sentence("An object is used for at most 512 calls");
        TrackBox x = new TrackBox();
        for (int i = 0; i < 511; i++) {
            x.joint(1, 0);
        }
        Check.due("count(11) as call 512", x.count(11), 511);
        TrackBox y = Check.boxed(2, 2, 2, 8, 8, 8, 2);
        for (int i = 0; i < 50; i++) {
            y.ring(6, i % 2 == 0, i % 7);
            y.image();
            y.nearest(i % 5 + 1);
            y.on();
        }
        y.ring(6, false, 0);
        Check.dueRow("ring(6, false, 0) behind many calls", y, "aqqaqq");
    }

    private static void feedBelowOne() {
        Check.sentence("Promise 2: n is 1 at least, -4");
        TrackBox x = new TrackBox();
        Check.due("feed(0, a)", x.feed(0, 97L), -4);
        Check.due("feed(-1, a)", x.feed(-1, 97L), -4);
        Check.due("feed(-8, a)", x.feed(-8, 97L), -4);
        Check.due("feed(least, a)", x.feed(LEAST, 97L), -4);
        Check.due("count(3)", x.count(3), 0);
        Check.dueRefusals("feed", x, 0, 0, 0, 4, 0, 0);
        Check.due("feed(1, a)", x.feed(1, 97L), 1);
    }

    private static void feedAboveEight() {
        Check.sentence("Promise 2: n is 8 at most, -6");
        TrackBox x = new TrackBox();
        Check.due("feed(9, 0)", x.feed(9, 0L), -6);
        Check.due("feed(24, 0)", x.feed(24, 0L), -6);
        Check.due("feed(greatest, 0)", x.feed(GREATEST, 0L), -6);
        Check.due("count(3)", x.count(3), 0);
        Check.dueRefusals("feed", x, 0, 0, 0, 0, 0, 3);
        Check.due("feed(8, a)", x.feed(8, 0x6161616161616161L), 8);
        Check.due("feed(7, a)", x.feed(7, 0x61616161616161L), 15);
        Check.due("feed(greatest, 0) on 15", x.feed(GREATEST, 0L), -6);
        Check.due("row()", x.row(), 15);
    }

    private static void feedAbove24() {
        Check.sentence("Promise 2: 24 bytes at most, -6");
        for (int n = 1; n <= 8; n++) {
            TrackBox x = new TrackBox();
            Check.feed(x, Check.repeated("b", 24 - n));
            if (n < 8) {
                Check.due("feed(" + (n + 1) + ") to 25", x.feed(n + 1, 0L), -6);
            }
            Check.due("count(3)", x.count(3), 24 - n);
            Check.due("feed(" + n + ") to 24", x.feed(n, 0x6161616161616161L), 24);
            Check.due("feed(1) to 25", x.feed(1, 97L), -6);
            Check.due("feed(8) to 32", x.feed(8, 97L), -6);
            Check.due("count(3)", x.count(3), 24);
            Check.due("row()", x.row(), 24);
            Check.dueRow("24 bytes", x, Check.repeated("b", 24 - n) + Check.repeated("a", n));
            Check.due("feed(1) behind row()", x.feed(1, 97L), 1);
        }
    }

    private static void feedOrderOfRefusals() {
        Check.sentence("Promise 2: -4 ahead of -6");
        TrackBox x = new TrackBox();
        Check.feed(x, Check.repeated("x", 24));
        Check.due("feed(0) when full", x.feed(0, 0L), -4);
        Check.due("feed(least) when full", x.feed(LEAST, 0L), -4);
        Check.due("feed(9) when full", x.feed(9, 0L), -6);
        Check.due("feed(1) when full", x.feed(1, 0L), -6);
        Check.dueRefusals("feed", x, 0, 0, 0, 2, 0, 2);
    }

    private static void feedLowestFirst() {
        Check.sentence("Promise 2: n bytes come, the lowest first");
        TrackBox x = new TrackBox();
        x.feed(8, 0x7471736D6C636261L);
        x.feed(2, 0x78787878787878L << 16 | 0x7278L);
        Check.due("row()", x.row(), 10);
        Check.dueRow("lowest first", x, "abclmsqtxr");
        x.feed(7, -1L << 56 | 0x61616161616161L);
        Check.due("row() without the eighth byte", x.row(), 7);
        x.feed(8, -1L << 56 | 0x61616161616161L);
        Check.due("row() with the eighth byte", x.row(), -27);
        x.feed(8, 0xF1L << 56 | 0x71717171717171L);
        Check.due("row() with q and 128 as the eighth byte", x.row(), -27);
    }

    private static void feedLeavesTheRow() {
        Check.sentence("Promise 2: THE TAPE is not THE ROW yet");
        TrackBox x = Check.laid("qtq");
        x.feed(4, 0x61616161L);
        Check.dueRow("feed", x, "qtq");
        Check.due("joint(3, 4)", x.joint(3, 4), 2);
        Check.due("count(3)", x.count(3), 4);
    }

    private static void rowOfTheTape() {
        Check.sentence("Promise 3: THE TAPE becomes THE ROW: how many PIECES");
        for (int n = 1; n <= 24; n++) {
            TrackBox x = new TrackBox();
            String text = Check.repeated("xtqsrmlcba", 3).substring(0, n);
            Check.due("row() of " + n, Check.lay(x, text), n);
            Check.dueRow("row", x, text);
        }
    }

    private static void rowLeavesNoTape() {
        Check.sentence("Promise 3: THE TAPE has none");
        TrackBox x = Check.laid("abcabcabcabcabcabcabcabc");
        Check.due("count(3)", x.count(3), 0);
        Check.due("feed(1, q)", x.feed(1, 113L), 1);
        Check.due("row()", x.row(), 1);
        Check.dueRow("the next row", x, "q");
    }

    private static void rowOfNone() {
        Check.sentence("A ROW may have none");
        TrackBox x = Check.laid("qqqq");
        Check.due("row()", x.row(), 0);
        Check.due("count(0)", x.count(0), 0);
        Check.due("piece(0)", x.piece(0), -9);
        Check.due("joint(1, 0)", x.joint(1, 0), Check.FAR + 1);
        Check.due("closes()", x.closes(), 0);
        Check.due("gap(0)", x.gap(0), 0);
        Check.due("row() again", x.row(), 0);
    }

    private static void rowOf24() {
        Check.sentence("A ROW is read from a TEXT, 24 bytes at most");
        TrackBox x = Check.laid(Check.repeated("q", 23) + "x");
        Check.due("count(0)", x.count(0), 24);
        Check.due("piece(23)", x.piece(23), 9);
        Check.due("piece(24)", x.piece(24), -9);
        Check.dueJoint(x, 24, -8, 0, 0, 0, 6);
    }

    private static void rowLetters() {
        Check.sentence("LAYINGS have letters: a b c l m r s q t x, and no other byte is one");
        TrackBox x = Check.laid("qq");
        for (int sign = 0; sign < 256; sign++) {
            if (sign == 128) {
                x = Check.laid("qq");
            }
            x.feed(1, sign);
            int letter = Check.LETTERS.indexOf((char) sign);
            Check.due("row() of byte " + sign, x.row(), letter < 0 ? -20 : 1);
            if (letter >= 0) {
                Check.due("piece(0) of byte " + sign, x.piece(0), letter);
            }
        }
    }

    private static void rowFaultPlaces() {
        Check.sentence("FAULT: -20 less the place (from 0 on)");
        TrackBox x = new TrackBox();
        for (int place = 0; place < 24; place++) {
            String text = Check.repeated("a", place) + "z" + Check.repeated("a", 23 - place);
            Check.due("row() with a FAULT at " + place, Check.lay(x, text), -20 - place);
            Check.due("row() with a FAULT at its end " + place, Check.lay(x, text.substring(0, place + 1)), -20 - place);
        }
    }

    private static void rowFirstOfFaults() {
        Check.sentence("FAULT: the first byte that is none");
        TrackBox x = new TrackBox();
        Check.due("row() of dd", Check.lay(x, "dd"), -20);
        Check.due("row() of adad", Check.lay(x, "adad"), -21);
        Check.due("row() of aad and 21 d", Check.lay(x, "aa" + Check.repeated("d", 22)), -22);
    }

    private static void rowFaultChangesTheTapeAlone() {
        Check.sentence("Promise 3: by a FAULT nothing is counted, THE TAPE has none, THE ROW stays");
        TrackBox x = Check.laid("qtx");
        Check.due("row()", Check.lay(x, "aaaad"), -24);
        Check.dueRow("FAULT", x, "qtx");
        Check.dueJoint(x, 3, 24, 0, 16, 0, 0);
        Check.dueRefusals("FAULT", x, 0, 0, 0, 0, 0, 0);
        Check.due("count(3)", x.count(3), 0);
        Check.due("feed(1, b)", x.feed(1, 98L), 1);
        Check.due("row()", x.row(), 1);
        Check.dueRow("the row behind a FAULT", x, "b");
    }

    private static void boxKinds() {
        Check.sentence("Promise 4: KINDS 0 .. 6, -1");
        TrackBox x = new TrackBox();
        Check.due("box(-1, 1)", x.box(-1, 1), -1);
        Check.due("box(7, 1)", x.box(7, 1), -1);
        Check.due("box(least, 1)", x.box(LEAST, 1), -1);
        Check.due("box(greatest, 1)", x.box(GREATEST, 1), -1);
        Check.due("count(1)", x.count(1), 0);
        Check.dueRefusals("box", x, 4, 0, 0, 0, 0, 0);
        Check.due("box(0, 1)", x.box(0, 1), 0);
        Check.due("box(6, 2)", x.box(6, 2), 0);
        Check.due("count(1)", x.count(1), 3);
    }

    private static void boxMany() {
        Check.sentence("Promise 4: MANY 0 .. 9, -4, -6");
        TrackBox x = new TrackBox();
        for (int kind = 0; kind < 7; kind++) {
            Check.due("box(" + kind + ", 9)", x.box(kind, 9), 0);
            Check.due("box(" + kind + ", 10)", x.box(kind, 10), -6);
            Check.due("box(" + kind + ", greatest)", x.box(kind, GREATEST), -6);
            Check.due("count(1)", x.count(1), 9);
            Check.due("box(" + kind + ", 0)", x.box(kind, 0), 9);
            Check.due("box(" + kind + ", -1)", x.box(kind, -1), -4);
            Check.due("box(" + kind + ", least)", x.box(kind, LEAST), -4);
            Check.due("count(1)", x.count(1), 0);
        }
        Check.dueRefusals("box", x, 0, 0, 0, 14, 0, 14);
    }

    private static void boxOrderOfRefusals() {
        Check.sentence("Promise 4: -1 ahead of -4 and -6");
        TrackBox x = new TrackBox();
        Check.due("box(-1, -1)", x.box(-1, -1), -1);
        Check.due("box(-1, 10)", x.box(-1, 10), -1);
        Check.due("box(7, -1)", x.box(7, -1), -1);
        Check.due("box(7, 10)", x.box(7, 10), -1);
        Check.dueRefusals("box", x, 4, 0, 0, 0, 0, 0);
    }

    private static void boxTellsWhatItWas() {
        Check.sentence("Promise 4: how MANY becomes what is told: what it was");
        TrackBox x = Check.boxed(1, 2, 3, 4, 5, 6, 7);
        for (int kind = 0; kind < 7; kind++) {
            Check.due("box(" + kind + ", 9)", x.box(kind, 9 - kind), kind + 1);
            Check.due("box(" + kind + ", 9)", x.box(kind, 9 - kind), 9 - kind);
        }
        Check.due("count(1)", x.count(1), 9 + 8 + 7 + 6 + 5 + 4 + 3);
    }

    private static void sizeKinds() {
        Check.sentence("Promise 5: KINDS 0 .. 6, -1");
        TrackBox x = new TrackBox();
        Check.due("size(-1, 1)", x.size(-1, 1), -1);
        Check.due("size(7, 1)", x.size(7, 1), -1);
        Check.due("size(least, 1)", x.size(LEAST, 1), -1);
        Check.due("size(greatest, 1)", x.size(GREATEST, 1), -1);
        Check.dueRefusals("size", x, 4, 0, 0, 0, 0, 0);
        Check.due("size(0, 1)", x.size(0, 1), 4);
        Check.due("size(6, 1)", x.size(6, 1), 4);
    }

    private static void sizeValues() {
        Check.sentence("Promise 5: a SIZE 1 .. 20, -4, -6");
        TrackBox x = new TrackBox();
        for (int kind = 0; kind < 7; kind++) {
            Check.due("size(" + kind + ", 1)", x.size(kind, 1), SIZES[kind]);
            Check.due("size(" + kind + ", 0)", x.size(kind, 0), -4);
            Check.due("size(" + kind + ", least)", x.size(kind, LEAST), -4);
            Check.due("size(" + kind + ", 20)", x.size(kind, 20), 1);
            Check.due("size(" + kind + ", 21)", x.size(kind, 21), -6);
            Check.due("size(" + kind + ", greatest)", x.size(kind, GREATEST), -6);
            Check.due("size(" + kind + ", 20)", x.size(kind, 20), 20);
        }
        Check.dueRefusals("size", x, 0, 0, 0, 14, 0, 14);
    }

    private static void sizeOrderOfRefusals() {
        Check.sentence("Promise 5: -1 ahead of -4 and -6");
        TrackBox x = new TrackBox();
        Check.due("size(-1, 0)", x.size(-1, 0), -1);
        Check.due("size(-1, 21)", x.size(-1, 21), -1);
        Check.due("size(7, 0)", x.size(7, 0), -1);
        Check.due("size(7, 21)", x.size(7, 21), -1);
        Check.dueRefusals("size", x, 4, 0, 0, 0, 0, 0);
    }

    private static void sizeTellsWhatItWas() {
        Check.sentence("Promise 5: SIZE becomes what is told: what it was");
        TrackBox x = Check.laid("abxqt");
        Check.due("size(1, 7)", x.size(1, 7), 2);
        Check.due("size(1, 7)", x.size(1, 7), 7);
        Check.dueJoint(x, 2, 22, 0, 0, 0, 0);
        Check.due("size(6, 3)", x.size(6, 3), 4);
        Check.dueJoint(x, 3, 28, 0, 0, 0, 0);
        Check.due("size(5, 20)", x.size(5, 20), 4);
        Check.dueJoint(x, 5, 108, 0, 80, 0, 0);
    }

    private static void sizeIsOfItsKindAlone() {
        Check.sentence("The box: of each KIND a SIZE");
        String[] letters = {"a", "b", "c", "lr", "ms", "qt", "x"};
        for (int kind = 0; kind < 7; kind++) {
            TrackBox x = new TrackBox();
            x.size(kind, 11);
            for (int other = 0; other < 7; other++) {
                boolean eighth = other == 3 || other == 4;
                int size = other == kind ? 11 : SIZES[other];
                for (int i = 0; i < letters[other].length(); i++) {
                    Check.lay(x, letters[other].substring(i, i + 1));
                    Check.due("ahead by kind " + other, x.joint(1, eighth ? 1 : 0), eighth ? size : 2 * size);
                }
            }
        }
    }

    private static void pieceOfTheRow() {
        Check.sentence("Promise 6: PIECE i (0 on): 0 .. 9 in the order a b c l m r s q t x");
        TrackBox x = Check.laid("abclmrsqtx");
        for (int i = 0; i < 10; i++) {
            Check.due("piece(" + i + ")", x.piece(i), i);
        }
        TrackBox y = Check.laid(Check.repeated("a", 23) + "x");
        Check.due("piece(22) of 24", y.piece(22), 0);
        Check.due("piece(23) of 24", y.piece(23), 9);
    }

    private static void pieceNoneSuch() {
        Check.sentence("Promise 6: -9 none such, and not counted");
        TrackBox x = Check.laid("xxx");
        Check.due("piece(-1)", x.piece(-1), -9);
        Check.due("piece(3)", x.piece(3), -9);
        Check.due("piece(2)", x.piece(2), 9);
        Check.due("piece(least)", x.piece(LEAST), -9);
        Check.due("piece(greatest)", x.piece(GREATEST), -9);
        TrackBox y = Check.laid(Check.repeated("x", 24));
        Check.due("piece(24)", y.piece(24), -9);
        Check.due("piece(-1)", y.piece(-1), -9);
        Check.dueRefusals("piece", x, 0, 0, 0, 0, 0, 0);
        Check.dueRefusals("piece", y, 0, 0, 0, 0, 0, 0);
    }

    private static void pieceBehindAShorterRow() {
        Check.sentence("Promise 6: PIECE of THE ROW, not of an earlier one");
        TrackBox x = Check.laid("xxxx");
        Check.lay(x, "qq");
        Check.due("piece(1)", x.piece(1), 7);
        Check.due("piece(2)", x.piece(2), -9);
        Check.due("joint(2, 4)", x.joint(2, 4), 4);
        Check.due("joint(3, 4)", x.joint(3, 4), Check.FAR + 1);
    }

    private static void jointNumbers() {
        Check.sentence("JOINTS: 0 the beginning, i behind the i-th PIECE; -1 no such JOINT");
        TrackBox x = Check.laid("qqq");
        Check.due("joint(-1, 4)", x.joint(-1, 4), Check.FAR + 1);
        Check.due("joint(0, 4)", x.joint(0, 4), 0);
        Check.due("joint(1, 4)", x.joint(1, 4), 2);
        Check.due("joint(3, 4)", x.joint(3, 4), 6);
        Check.due("joint(4, 4)", x.joint(4, 4), Check.FAR + 1);
        Check.due("joint(least, 4)", x.joint(LEAST, 4), Check.FAR + 1);
        Check.due("joint(greatest, 4)", x.joint(GREATEST, 4), Check.FAR + 1);
        Check.dueRefusals("joint", x, 4, 0, 0, 0, 0, 0);
    }

    private static void jointWhats() {
        Check.sentence("Promise 7: what 0 .. 4, -2");
        TrackBox x = Check.laid("lat");
        Check.dueJoint(x, 3, 0, 16, 8, 0, 7);
        Check.due("joint(3, -1)", x.joint(3, -1), Check.FAR + 2);
        Check.due("joint(3, 5)", x.joint(3, 5), Check.FAR + 2);
        Check.due("joint(0, least)", x.joint(0, LEAST), Check.FAR + 2);
        Check.due("joint(0, greatest)", x.joint(0, GREATEST), Check.FAR + 2);
        Check.dueRefusals("joint", x, 0, 4, 0, 0, 0, 0);
    }

    private static void jointOrderOfRefusals() {
        Check.sentence("Promise 7: -1 ahead of -2");
        TrackBox x = Check.laid("q");
        Check.due("joint(-1, -1)", x.joint(-1, -1), Check.FAR + 1);
        Check.due("joint(2, 5)", x.joint(2, 5), Check.FAR + 1);
        Check.due("joint(1, 5)", x.joint(1, 5), Check.FAR + 2);
        Check.dueRefusals("joint", x, 2, 1, 0, 0, 0, 0);
    }

    private static void jointOfARowOfNone() {
        Check.sentence("A ROW begins at 0, 0 in DIRECTION 0");
        TrackBox x = new TrackBox();
        Check.dueJoint(x, 0, 0, 0, 0, 0, 0);
        Check.due("joint(1, 0)", x.joint(1, 0), Check.FAR + 1);
        Check.due("joint(-1, 0)", x.joint(-1, 0), Check.FAR + 1);
        for (int i = 0; i < 10; i++) {
            Check.lay(x, Check.LETTERS.substring(i, i + 1));
            Check.dueJoint(x, 0, 0, 0, 0, 0, 0);
        }
    }

    private static void jointOf24() {
        Check.sentence("JOINTS: 24 PIECES at most have JOINTS 0 .. 24");
        TrackBox x = Check.laid(Check.repeated("x", 24));
        x.size(6, 20);
        Check.dueJoint(x, 23, 920, 0, 0, 0, 0);
        Check.dueJoint(x, 24, 960, 0, 0, 0, 0);
        Check.due("joint(25, 0)", x.joint(25, 0), Check.FAR + 1);
        x.size(5, 20);
        Check.lay(x, Check.repeated("qt", 12));
        Check.dueJoint(x, 24, 960, 0, 960, 0, 0);
        Check.lay(x, Check.repeated("tq", 12));
        Check.dueJoint(x, 24, 960, 0, -960, 0, 0);
        Check.lay(x, "l" + Check.repeated("x", 23));
        Check.dueJoint(x, 24, 0, 464, 8, 456, 1);
        Check.lay(x, "r" + Check.repeated("x", 23));
        Check.dueJoint(x, 24, 0, 464, -8, -456, 7);
        Check.lay(x, "qq" + Check.repeated("x", 22));
        Check.dueJoint(x, 24, -880, 0, 80, 0, 4);
        Check.lay(x, "lq" + Check.repeated("x", 22));
        Check.dueJoint(x, 24, 0, -436, 8, 476, 3);
    }

    /** Laid behind so many eighths to the left that it begins in a DIRECTION. */
    private static void dueStep(TrackBox x, int direction, String letter, int[] step, int turn) {
        Check.lay(x, Check.repeated("l", direction) + letter);
        String call = letter + " from DIRECTION " + direction;
        for (int what = 0; what < 4; what++) {
            int led = x.joint(direction + 1, what) - x.joint(direction, what);
            Check.due(call + ", part " + what, led, step[what]);
        }
        Check.due(call + ", to DIRECTION", x.joint(direction + 1, 4), (direction + turn + 8) % 8);
    }

    private static void jointStraightsTurned() {
        Check.sentence("A STRAIGHT goes in DIRECTION 0, 1, and so on, turned");
        for (int direction = 0; direction < 8; direction++) {
            TrackBox x = new TrackBox();
            Check.sizes(x, 4, 4, 4, 4, 4, 4, 4);
            for (int i = 0; i < 4; i++) {
                dueStep(x, direction, "abcx".substring(i, i + 1), STRAIGHT[direction], 0);
            }
        }
    }

    private static void jointBendsTurned() {
        Check.sentence("A BEND by an eighth, by a quarter, to the left, to the right, turned");
        for (int direction = 0; direction < 8; direction++) {
            TrackBox x = new TrackBox();
            Check.sizes(x, 4, 4, 4, 4, 4, 4, 4);
            dueStep(x, direction, "l", EIGHTH_LEFT[direction], 1);
            dueStep(x, direction, "m", EIGHTH_LEFT[direction], 1);
            dueStep(x, direction, "r", EIGHTH_RIGHT[direction], -1);
            dueStep(x, direction, "s", EIGHTH_RIGHT[direction], -1);
            dueStep(x, direction, "q", QUARTER_LEFT[direction], 2);
            dueStep(x, direction, "t", QUARTER_RIGHT[direction], -2);
        }
    }

    private static void jointDirectionsWrap() {
        Check.sentence("DIRECTIONS 0 .. 7: behind 7 comes 0, ahead of 0 is 7");
        TrackBox x = Check.laid(Check.repeated("l", 24));
        for (int i = 0; i <= 24; i++) {
            Check.due("DIRECTION of joint(" + i + ") of l", x.joint(i, 4), i % 8);
        }
        Check.lay(x, Check.repeated("s", 24));
        for (int i = 0; i <= 24; i++) {
            Check.due("DIRECTION of joint(" + i + ") of s", x.joint(i, 4), (24 - i) % 8);
        }
        Check.lay(x, "m" + Check.repeated("q", 23));
        for (int i = 1; i <= 24; i++) {
            Check.due("DIRECTION of joint(" + i + ") of mq", x.joint(i, 4), (2 * i - 1) % 8);
        }
        Check.lay(x, "r" + Check.repeated("t", 23));
        for (int i = 1; i <= 24; i++) {
            Check.due("DIRECTION of joint(" + i + ") of rt", x.joint(i, 4), (49 - 2 * i) % 8);
        }
    }

    private static void jointSizes() {
        Check.sentence("All is told in halves, for SIZES from 1 to 20");
        for (int size = 1; size <= 20; size++) {
            TrackBox x = new TrackBox();
            Check.sizes(x, size, size, size, size, size, size, size);
            Check.lay(x, "alrqtx");
            Check.dueJoint(x, 1, 2 * size, 0, 0, 0, 0);
            Check.dueJoint(x, 2, 2 * size, size, 2 * size, -size, 1);
            Check.dueJoint(x, 3, 2 * size, 2 * size, 4 * size, -2 * size, 0);
            Check.dueJoint(x, 4, 4 * size, 2 * size, 6 * size, -2 * size, 2);
            Check.dueJoint(x, 5, 6 * size, 2 * size, 8 * size, -2 * size, 0);
            Check.dueJoint(x, 6, 8 * size, 2 * size, 8 * size, -2 * size, 0);
        }
    }

    private static void closesNeedsAPiece() {
        Check.sentence("CLOSES: and there is a PIECE");
        TrackBox x = new TrackBox();
        Check.due("closes() of none", x.closes(), 0);
        for (int i = 0; i < 10; i++) {
            Check.lay(x, Check.LETTERS.substring(i, i + 1));
            Check.due("closes() of one", x.closes(), 0);
        }
        Check.lay(x, "qqqq");
        Check.due("closes() of qqqq", x.closes(), 1);
        x.row();
        Check.due("closes() of none behind a ring", x.closes(), 0);
    }

    private static void closesNeedsDirection0() {
        Check.sentence("CLOSES: in DIRECTION 0");
        TrackBox x = Check.laid("aqqqa");
        Check.dueJoint(x, 5, 0, 0, 0, 0, 6);
        Check.due("closes() of aqqqa", x.closes(), 0);
        Check.lay(x, "attta");
        Check.dueJoint(x, 5, 0, 0, 0, 0, 2);
        Check.due("closes() of attta", x.closes(), 0);
        Check.lay(x, "aqqqattt");
        Check.due("closes() of aqqqattt", x.closes(), 0);
        Check.lay(x, "aqqqaattta");
        Check.due("closes() of aqqqaattta", x.closes(), 1);
    }

    private static void closesNeedsEachPart() {
        Check.sentence("CLOSES: the last JOINT is at 0, 0, by each part");
        TrackBox x = Check.laid("a");
        Check.dueJoint(x, 1, 8, 0, 0, 0, 0);
        Check.due("closes() beside by WHOLE of x", x.closes(), 0);
        Check.lay(x, "ltl");
        Check.dueJoint(x, 3, 0, 16, 0, 0, 0);
        Check.due("closes() beside by ROOT of x", x.closes(), 0);
        Check.lay(x, "ttqq");
        Check.dueJoint(x, 4, 0, 0, -32, 0, 0);
        Check.due("closes() beside by WHOLE of y", x.closes(), 0);
        Check.lay(x, "qqlmml");
        Check.dueJoint(x, 6, 0, 0, 0, -4, 0);
        Check.due("closes() beside by ROOT of y", x.closes(), 0);
        Check.lay(x, "aqqbqq");
        Check.due("closes() beside by 4 halves", x.closes(), 0);
        Check.lay(x, "aqqbbqq");
        Check.due("closes()", x.closes(), 1);
    }

    private static void closesAtTheLastJointAlone() {
        Check.sentence("CLOSES: the last JOINT");
        TrackBox x = Check.laid("qqqqa");
        Check.due("closes() of qqqqa", x.closes(), 0);
        Check.lay(x, "aqqqq");
        Check.due("closes() of aqqqq", x.closes(), 0);
        Check.lay(x, "qqqqq");
        Check.due("closes() of qqqqq", x.closes(), 0);
        Check.lay(x, "qqqqqqqq");
        Check.due("closes() of two rings", x.closes(), 1);
        Check.lay(x, "qqqqtttt");
        Check.due("closes() of a ring to the left and one to the right", x.closes(), 1);
    }

    private static void closesOf24() {
        Check.sentence("CLOSES: of 24 PIECES, too");
        TrackBox x = Check.laid(Check.repeated("l", 24));
        Check.due("closes() of 24 l", x.closes(), 1);
        Check.lay(x, Check.repeated("l", 23));
        Check.due("closes() of 23 l", x.closes(), 0);
        Check.lay(x, Check.repeated("l", 23) + "m");
        Check.due("closes() of 23 l and m", x.closes(), 0);
        x.size(4, 4);
        Check.due("closes() of 23 l and m of one radius", x.closes(), 1);
    }

    private static void usesOfNone() {
        Check.sentence("USES: a ROW of none takes none");
        TrackBox x = new TrackBox();
        Check.due("uses()", x.uses(), 1);
        x.box(0, 9);
        Check.due("uses()", x.uses(), 1);
    }

    private static void usesOfEachKind() {
        Check.sentence("USES: it takes no more of each KIND than there are");
        String[] letters = {"a", "b", "c", "l", "m", "r", "s", "q", "t", "x"};
        int[] kinds = {0, 1, 2, 3, 4, 3, 4, 5, 5, 6};
        for (int letter = 0; letter < 10; letter++) {
            TrackBox x = Check.boxed(9, 9, 9, 9, 9, 9, 9);
            for (int many = 1; many <= 9; many++) {
                Check.lay(x, Check.repeated(letters[letter], many));
                x.box(kinds[letter], many - 1);
                Check.due("uses() of " + many + " " + letters[letter] + ", one fewer there", x.uses(), 0);
                x.box(kinds[letter], many);
                Check.due("uses() of " + many + " " + letters[letter] + ", as many there", x.uses(), 1);
                x.box(kinds[letter], 9);
                Check.due("uses() of " + many + " " + letters[letter] + ", 9 there", x.uses(), 1);
            }
            Check.lay(x, Check.repeated(letters[letter], 10));
            Check.due("uses() of 10 " + letters[letter] + ", 9 there", x.uses(), 0);
        }
    }

    private static void usesLeftAndRightAsOne() {
        Check.sentence("A BEND is laid to the left or to the right: of one KIND");
        TrackBox x = Check.boxed(0, 0, 0, 1, 0, 0, 0);
        String[] both = {"lr", "ms", "qt"};
        for (int i = 0; i < 3; i++) {
            Check.lay(x, both[i]);
            x.box(3 + i, 1);
            Check.due("uses() of " + both[i] + ", 1 there", x.uses(), 0);
            x.box(3 + i, 2);
            Check.due("uses() of " + both[i] + ", 2 there", x.uses(), 1);
        }
    }

    private static void usesOf24() {
        Check.sentence("USES: of 24 PIECES, too");
        TrackBox x = Check.boxed(8, 8, 7, 0, 0, 0, 0);
        Check.lay(x, Check.repeated("abc", 8));
        Check.due("uses() of 8 c, 7 there", x.uses(), 0);
        x.box(2, 8);
        Check.due("uses() of 8 c, 8 there", x.uses(), 1);
        Check.lay(x, Check.repeated("abc", 7) + "abx");
        Check.due("uses() of x, none there", x.uses(), 0);
        x.box(6, 1);
        Check.due("uses() of x, 1 there", x.uses(), 1);
    }
}
