/**
 * Promises 18 to 27: each sentence of the document that names a boundary has a test of its own
 * here, on both sides of it where there are two.
 */
public final class BoundsOfRings {
    private static final int LEAST = Integer.MIN_VALUE;
    private static final int GREATEST = Integer.MAX_VALUE;
    // All rings of six where all sizes are one: two straights across, or one circle.
    private static final String[] SIXES = ("aqqaqq aqqbqq aqqcqq aqqxqq bqqbqq bqqcqq bqqxqq cqqcqq cqqxqq llllqq lllmqq lllqlq "
        + "lllqmq llmlqq llmmqq llmqlq llmqmq llmqqm llqllq llqlmq llqmmq lmlmqq lmlqlq lmlqmq lmmlqq lmmmqq lmmqlq lmmqmq "
        + "lmmqqm lmqlmq lmqlqm lmqmlq lmqmmq lmqmqm lqmmmq mmmmqq mmmqmq mmqmmq qqxqqx").split(" ");

    public static void main(String[] args) {
        ringsOfOneToSix();
        ringsOfJustN();
        ringsUseWhatThereIs();
        ringsOfFewPieces();
        ringsLieIfTold();
        ringsLieAtEachEdge();
        ringsLieAtNoLeg();
        alikeBegunWithAnother();
        alikeLeftAndRightChanged();
        alikeToldBackwards();
        alikeFirstByLetters();
        alikeTheFirstMustLie();
        ringsOfAllThereIs();
        ringsChangeNoRow();
        ringOfOneToSix();
        ringNoneSuch();
        ringByLetters();
        ringThatLies();
        ringOrderOfAnswers();
        mostOfOneToSix();
        mostNone();
        mostThatLies();
        opensOfOneToSix();
        opensEachKind();
        opensMost();
        opensMoreThanNow();
        opensNineAtMost();
        opensOneMoreAlone();
        opensThatLies();
        opensChangesNothing();
        nearestOfOneToFive();
        nearestNone();
        nearestInDirection0();
        nearestDoesNotClose();
        nearestUsesWhatThereIs();
        nearestFirstByLetters();
        nearestLeastGapExactly();
        nearestLiesOrNot();
        turnWithin();
        turnSixAtMost();
        turnOrderOfRefusals();
        photoWithoutTurns();
        photoOfEachTurn();
        photoOfOneToSix();
        photoUsesAndCloses();
        photoTurnsAreNoneThen();
        photoChangesNoRow();
        imageAndOn();
        imageOfTheBox();
        imageOfTheRow();
        imageOfTheTable();
        imageOfLegs();
        imageLeavesTapeTurnsAndRefusals();
        imageAnew();
        onWithoutImage();
        onAgain();
        countWhats();
        countOfEach();
        countOfRefusals();
        Check.end("the bounds of promises 18 to 27 hold");
    }

    private static TrackBox full() {
        return Check.boxed(9, 9, 9, 9, 9, 9, 9);
    }

    private static TrackBox fullOfOneSize() {
        TrackBox x = full();
        Check.sizes(x, 4, 4, 4, 4, 4, 4, 4);
        return x;
    }

    private static TrackBox rounded(int straights) {
        return Check.boxed(straights, 0, 0, 0, 0, 4, 0);
    }

    private static void dueRings(TrackBox x, int n, boolean lie, String... rows) {
        Check.due("rings(" + n + ", " + lie + ")", x.rings(n, lie), rows.length);
        for (int i = 0; i < rows.length; i++) {
            Check.due("ring(" + n + ", " + lie + ", " + i + ")", x.ring(n, lie, i), 1);
            Check.dueRow("ring(" + n + ", " + lie + ", " + i + ")", x, rows[i]);
        }
        Check.due("ring(" + n + ", " + lie + ", " + rows.length + ")", x.ring(n, lie, rows.length), -9);
    }

    private static void ringsOfOneToSix() {
        Check.sentence("Promise 18: n 1 .. 6, -4, -6");
        TrackBox x = full();
        int[] below = {0, -1, -6, LEAST};
        int[] above = {7, 8, 24, GREATEST};
        for (int i = 0; i < 4; i++) {
            Check.due("rings(" + below[i] + ", false)", x.rings(below[i], false), -4);
            Check.due("rings(" + below[i] + ", true)", x.rings(below[i], true), -4);
            Check.due("rings(" + above[i] + ", false)", x.rings(above[i], false), -6);
            Check.due("rings(" + above[i] + ", true)", x.rings(above[i], true), -6);
        }
        Check.dueRefusals("rings", x, 0, 0, 0, 8, 0, 8);
        int[] many = {0, 0, 0, 1, 2, 11};
        for (int n = 1; n <= 6; n++) {
            Check.due("rings(" + n + ", false)", x.rings(n, false), many[n - 1]);
            Check.due("rings(" + n + ", true)", x.rings(n, true), many[n - 1]);
        }
        Check.dueRefusals("rings", x, 0, 0, 0, 8, 0, 8);
    }

    private static void ringsOfJustN() {
        Check.sentence("RINGS of n PIECES: ROWS of just n");
        TrackBox x = rounded(2);
        int[] many = {0, 0, 0, 1, 0, 1};
        for (int n = 1; n <= 6; n++) {
            Check.due("rings(" + n + ", false)", x.rings(n, false), many[n - 1]);
        }
    }

    private static void ringsUseWhatThereIs() {
        Check.sentence("RINGS: that USE what there is");
        TrackBox x = new TrackBox();
        for (int quarters = 0; quarters <= 9; quarters++) {
            x.box(5, quarters);
            Check.due("rings(4, false) of " + quarters, x.rings(4, false), quarters < 4 ? 0 : 1);
        }
        int[] straights = {0, 1, 2, 6};
        String[] letters = {"a", "b", "c", "x"};
        for (int i = 0; i < 4; i++) {
            TrackBox y = Check.boxed(0, 0, 0, 0, 0, 4, 0);
            y.box(straights[i], 1);
            dueRings(y, 6, false);
            y.box(straights[i], 2);
            dueRings(y, 6, false, i == 3 ? "qqxqqx" : letters[i] + "qq" + letters[i] + "qq");
            y.box(5, 3);
            dueRings(y, 6, false);
        }
        for (int kind = 3; kind <= 4; kind++) {
            TrackBox y = Check.boxed(0, 0, 0, 0, 0, 3, 0);
            y.size(4, 4);
            y.box(kind, 1);
            dueRings(y, 5, false);
            y.box(kind, 2);
            dueRings(y, 5, false, kind == 3 ? "llqqq" : "mmqqq", kind == 3 ? "lqlqq" : "mqmqq");
            y.box(5, 2);
            dueRings(y, 5, false);
        }
    }

    private static void ringsOfFewPieces() {
        Check.sentence("RINGS: that CLOSE, which one to three PIECES never do");
        TrackBox x = fullOfOneSize();
        for (int n = 1; n <= 3; n++) {
            dueRings(x, n, false);
            dueRings(x, n, true);
        }
        dueRings(x, 4, false, "qqqq");
        Check.sentence("RINGS: of an empty BOX");
        TrackBox y = new TrackBox();
        for (int n = 1; n <= 6; n++) {
            dueRings(y, n, false);
            dueRings(y, n, true);
        }
    }

    private static void ringsLieIfTold() {
        Check.sentence("RINGS: and LIE, if told");
        TrackBox x = rounded(2);
        x.table(1, 15);
        dueRings(x, 6, true);
        dueRings(x, 6, false, "aqqaqq");
        x.table(1, 16);
        dueRings(x, 6, true, "aqqaqq");
        x.leg(16, 8);
        dueRings(x, 6, true);
        dueRings(x, 6, false, "aqqaqq");
    }

    private static void ringsLieAtEachEdge() {
        Check.sentence("RINGS that LIE: edges are on the table");
        int[] on = {-8, 16, 0, 16};
        for (int side = 0; side < 4; side++) {
            TrackBox x = rounded(2);
            for (int other = 0; other < 4; other++) {
                x.table(other, on[other]);
            }
            Check.due("rings(6, true) on the edges", x.rings(6, true), 1);
            x.table(side, side % 2 == 0 ? on[side] + 1 : on[side] - 1);
            Check.due("rings(6, true) over side " + side, x.rings(6, true), 0);
            Check.due("rings(6, false) over side " + side, x.rings(6, false), 1);
        }
    }

    private static void ringsLieAtNoLeg() {
        Check.sentence("RINGS that LIE: at no LEG");
        int[][] joints = {{0, 0}, {8, 0}, {16, 8}, {8, 16}, {0, 16}, {-8, 8}};
        for (int[] place : joints) {
            TrackBox x = rounded(2);
            x.leg(4, 8);
            x.leg(place[0] + 1, place[1]);
            Check.due("rings(6, true) beside LEGS", x.rings(6, true), 1);
            x.leg(place[0], place[1]);
            Check.due("rings(6, true) at a LEG", x.rings(6, true), 0);
            Check.due("rings(6, false) at a LEG", x.rings(6, false), 1);
        }
    }

    private static void alikeBegunWithAnother() {
        Check.sentence("ALIKE: one is the other begun with another PIECE");
        dueRings(rounded(2), 6, false, "aqqaqq");
        TrackBox x = Check.boxed(1, 1, 0, 0, 0, 4, 0);
        x.size(1, 4);
        dueRings(x, 6, false, "aqqbqq");
        dueRings(Check.boxed(0, 0, 0, 2, 0, 3, 0), 5, false, "llqqq", "lqlqq");
    }

    private static void alikeLeftAndRightChanged() {
        Check.sentence("ALIKE: with left and right changed in all");
        dueRings(rounded(0), 4, false, "qqqq");
        TrackBox x = Check.boxed(0, 0, 0, 1, 1, 4, 0);
        Check.sizes(x, 4, 2, 1, 3, 1, 1, 4);
        dueRings(x, 6, false, "lqqsqq");
        TrackBox y = Check.boxed(0, 0, 0, 1, 1, 4, 0);
        Check.sizes(y, 4, 2, 1, 1, 3, 1, 4);
        dueRings(y, 6, false, "lttstt");
    }

    private static void alikeToldBackwards() {
        Check.sentence("ALIKE: told backwards, left and right changed");
        TrackBox x = Check.boxed(0, 0, 0, 2, 2, 2, 0);
        x.size(4, 4);
        dueRings(x, 6, false, "llmmqq", "llmqmq", "llmqqm", "llqmmq", "lmlmqq", "lmlqmq", "lmmlqq", "lmmqlq", "lmqlmq", "lmqlqm",
            "lmqmlq");
        TrackBox y = Check.boxed(0, 0, 0, 1, 1, 3, 0);
        y.size(4, 4);
        dueRings(y, 5, false, "lmqqq", "lqmqq");
        TrackBox z = Check.boxed(0, 0, 0, 1, 3, 2, 0);
        z.size(4, 4);
        dueRings(z, 6, false, "lmmmqq", "lmmqmq", "lmmqqm", "lmqmmq", "lmqmqm", "lqmmmq");
    }

    private static void alikeFirstByLetters() {
        Check.sentence("ALIKE: the first by letters (in the order a b c l m r s q t x) stands for all");
        TrackBox x = fullOfOneSize();
        for (int i = 0; i < SIXES.length; i++) {
            x.ring(6, false, i);
            Check.due("piece(0) of ring " + i + " is none to the right", x.piece(0) < 5 || x.piece(0) == 7 ? 1 : 0, 1);
        }
        TrackBox y = Check.boxed(0, 0, 0, 0, 0, 4, 2);
        dueRings(y, 6, false, "qqxqqx");
        TrackBox z = Check.boxed(0, 1, 0, 0, 0, 4, 1);
        z.size(1, 4);
        dueRings(z, 6, false, "bqqxqq");
    }

    private static void alikeTheFirstMustLie() {
        Check.sentence("ALIKE: the first by letters must LIE, if told (else none of them counts)");
        TrackBox x = rounded(2);
        x.table(3, 15);
        Check.lay(x, "attatt");
        Check.due("lies() of attatt", x.lies(), 1);
        Check.lay(x, "qqaqqa");
        Check.due("lies() of qqaqqa", x.lies(), 0);
        dueRings(x, 6, true);
        TrackBox y = rounded(2);
        y.leg(16, 8);
        Check.lay(y, "qqaqqa");
        Check.due("lies() of qqaqqa", y.lies(), 1);
        Check.lay(y, "aqqaqq");
        Check.due("lies() of aqqaqq", y.lies(), 0);
        dueRings(y, 6, true);
        TrackBox z = rounded(2);
        z.table(2, 0);
        z.leg(-8, 16);
        Check.lay(z, "attatt");
        Check.due("lies() of attatt", z.lies(), 0);
        Check.lay(z, "qqaqqa");
        Check.due("lies() of qqaqqa", z.lies(), 0);
        Check.sentence("ALIKE: if the first by letters LIES, it does not matter whether others do");
        dueRings(z, 6, true, "aqqaqq");
    }

    private static void ringsOfAllThereIs() {
        Check.sentence("RINGS: all of them, none told twice");
        dueRings(fullOfOneSize(), 6, false, SIXES);
        dueRings(fullOfOneSize(), 6, true, SIXES);
        TrackBox x = fullOfOneSize();
        dueRings(x, 5, false, "llqqq", "lmqqq", "lqlqq", "lqmqq", "mmqqq", "mqmqq");
        dueRings(x, 4, true, "qqqq");
        dueRings(full(), 6, false, "aqqaqq", "aqqxqq", "bqqbqq", "cqqcqq", "llllqq", "lllqlq", "llqllq", "lmlqmq", "lmqlmq",
            "mmqmmq", "qqxqqx");
        dueRings(full(), 5, true, "llqqq", "lqlqq");
        Check.sentence("RINGS: of the greatest SIZES on the whole table");
        TrackBox y = full();
        Check.sizes(y, 20, 20, 20, 20, 20, 20, 20);
        dueRings(y, 6, true, SIXES);
        Check.sentence("RINGS: of the least SIZES");
        TrackBox z = full();
        Check.sizes(z, 1, 1, 1, 1, 1, 1, 1);
        dueRings(z, 6, true, SIXES);
    }

    private static void ringsChangeNoRow() {
        Check.sentence("Promise 18: THE ROW is not asked and stays");
        TrackBox x = Check.laid("xtx");
        x.box(5, 4);
        Check.due("rings(4, true)", x.rings(4, true), 1);
        Check.dueRow("rings", x, "xtx");
        Check.dueJoint(x, 3, 16, 0, -16, 0, 6);
        Check.lay(x, "qqqq");
        x.box(5, 3);
        Check.due("rings(4, true)", x.rings(4, true), 0);
        Check.dueRow("rings", x, "qqqq");
    }

    private static void ringOfOneToSix() {
        Check.sentence("Promise 19: n 1 .. 6, -4, -6 (n, ahead of -9)");
        TrackBox x = full();
        Check.lay(x, "ab");
        int[] below = {0, -1, LEAST};
        int[] above = {7, 8, GREATEST};
        int[] rings = {-1, 0, LEAST, GREATEST};
        for (int i : rings) {
            for (int k = 0; k < 3; k++) {
                Check.due("ring(" + below[k] + ", false, " + i + ")", x.ring(below[k], false, i), -4);
                Check.due("ring(" + above[k] + ", true, " + i + ")", x.ring(above[k], true, i), -6);
            }
        }
        Check.dueRefusals("ring", x, 0, 0, 0, 12, 0, 12);
        Check.dueRow("ring refused", x, "ab");
        Check.due("ring(6, false, 10)", x.ring(6, false, 10), 1);
        Check.dueRow("ring(6, false, 10)", x, "qqxqqx");
        Check.due("ring(1, false, 0)", x.ring(1, false, 0), -9);
    }

    private static void ringNoneSuch() {
        Check.sentence("Promise 19: -9 none such, i below 0 (THE ROW stays)");
        TrackBox x = full();
        Check.lay(x, "ab");
        Check.due("ring(6, false, 11)", x.ring(6, false, 11), -9);
        Check.due("ring(6, false, greatest)", x.ring(6, false, GREATEST), -9);
        Check.due("ring(6, false, -1)", x.ring(6, false, -1), -9);
        Check.due("ring(6, false, least)", x.ring(6, false, LEAST), -9);
        Check.due("ring(3, false, 0)", x.ring(3, false, 0), -9);
        Check.due("ring(1, false, -1)", x.ring(1, false, -1), -9);
        Check.due("ring(4, false, 1)", x.ring(4, false, 1), -9);
        Check.dueRow("ring that is none", x, "ab");
        Check.dueJoint(x, 2, 12, 0, 0, 0, 0);
        Check.dueRefusals("ring", x, 0, 0, 0, 0, 0, 0);
        Check.due("ring(4, false, 0)", x.ring(4, false, 0), 1);
        Check.dueRow("ring(4, false, 0)", x, "qqqq");
    }

    private static void ringByLetters() {
        Check.sentence("RINGS: the i-th (by letters, 0 on) becomes THE ROW");
        TrackBox x = fullOfOneSize();
        for (int i = SIXES.length - 1; i >= 0; i--) {
            Check.due("ring(6, false, " + i + ")", x.ring(6, false, i), 1);
            Check.dueRow("ring(6, false, " + i + ")", x, SIXES[i]);
        }
        Check.due("ring(4, false, 0) behind one of six", x.ring(4, false, 0), 1);
        Check.dueRow("ring(4, false, 0)", x, "qqqq");
        Check.due("closes()", x.closes(), 1);
        Check.due("piece(4)", x.piece(4), -9);
    }

    private static void ringThatLies() {
        Check.sentence("Promise 19: the i-th of those that LIE, if told");
        TrackBox x = Check.boxed(2, 2, 0, 0, 0, 4, 0);
        dueRings(x, 6, true, "aqqaqq", "bqqbqq");
        x.table(1, 15);
        dueRings(x, 6, true, "bqqbqq");
        dueRings(x, 6, false, "aqqaqq", "bqqbqq");
        x.leg(4, 0);
        dueRings(x, 6, true);
        x.table(1, 400);
        dueRings(x, 6, true, "aqqaqq");
    }

    private static void ringOrderOfAnswers() {
        Check.sentence("Promise 19: a ROW of none may become a RING, and the tape stays");
        TrackBox x = rounded(0);
        Check.feed(x, "ab");
        Check.due("ring(4, true, 0)", x.ring(4, true, 0), 1);
        Check.dueRow("ring(4, true, 0)", x, "qqqq");
        Check.due("count(3)", x.count(3), 2);
        Check.due("row()", x.row(), 2);
        Check.dueRow("row()", x, "ab");
    }

    private static void mostOfOneToSix() {
        Check.sentence("MOST: the most PIECES (of 1 .. 6) of a RING");
        TrackBox x = rounded(0);
        Check.due("most(false) of four", x.most(false), 4);
        x.box(3, 1);
        Check.due("most(false) of four and an eighth", x.most(false), 4);
        x.box(3, 2);
        Check.due("most(false) of four and two eighths", x.most(false), 5);
        x.box(0, 1);
        Check.due("most(false) with a straight", x.most(false), 5);
        x.box(0, 2);
        Check.due("most(false) with two straights", x.most(false), 6);
        x.box(5, 9);
        x.box(3, 9);
        Check.due("most(false) of many", x.most(false), 6);
        x.box(5, 2);
        Check.due("most(false) of two quarters and four eighths", x.most(false), 6);
        Check.due("most(false) of all", full().most(false), 6);
        TrackBox y = Check.boxed(0, 0, 0, 8, 0, 0, 0);
        Check.due("most(false) of eight eighths, a ring of eight", y.most(false), -9);
        Check.dueRow("most", x, "");
    }

    private static void mostNone() {
        Check.sentence("MOST: -9 none");
        TrackBox x = Check.boxed(9, 9, 9, 3, 0, 3, 9);
        Check.due("most(false)", x.most(false), 5);
        x.box(3, 1);
        Check.due("most(false) of three quarters and an eighth", x.most(false), -9);
        Check.due("most(true) of three quarters and an eighth", x.most(true), -9);
        Check.due("most(false) of an empty BOX", new TrackBox().most(false), -9);
        Check.due("most(true) of an empty BOX", new TrackBox().most(true), -9);
        Check.dueRefusals("most", x, 0, 0, 0, 0, 0, 0);
    }

    private static void mostThatLies() {
        Check.sentence("MOST: of those that LIE, if told");
        TrackBox x = Check.boxed(2, 0, 0, 2, 0, 4, 0);
        Check.due("most(true)", x.most(true), 6);
        x.table(1, 15);
        Check.due("most(true) with no room for six", x.most(true), 5);
        Check.due("most(false) with no room for six", x.most(false), 6);
        x.leg(8, 8);
        Check.due("most(true) with no room for qqqq", x.most(true), 5);
        x.box(3, 1);
        Check.due("most(true) of qqqq at a LEG", x.most(true), -9);
        Check.due("most(false) of qqqq at a LEG", x.most(false), 6);
        TrackBox y = rounded(2);
        y.table(1, 15);
        Check.due("most(true) of qqqq", y.most(true), 4);
        y.table(1, 7);
        Check.due("most(true) of none", y.most(true), -9);
    }

    private static void opensOfOneToSix() {
        Check.sentence("Promise 21: n 1 .. 6, -4, -6");
        TrackBox x = Check.boxed(0, 0, 0, 0, 0, 3, 0);
        int[] below = {0, -1, LEAST};
        int[] above = {7, 8, GREATEST};
        for (int i = 0; i < 3; i++) {
            Check.due("opens(" + below[i] + ", false)", x.opens(below[i], false), -4);
            Check.due("opens(" + below[i] + ", true)", x.opens(below[i], true), -4);
            Check.due("opens(" + above[i] + ", false)", x.opens(above[i], false), -6);
            Check.due("opens(" + above[i] + ", true)", x.opens(above[i], true), -6);
        }
        Check.dueRefusals("opens", x, 0, 0, 0, 6, 0, 6);
        int[] opened = {-9, -9, -9, 5, -9, -9};
        for (int n = 1; n <= 6; n++) {
            Check.due("opens(" + n + ", false)", x.opens(n, false), opened[n - 1]);
            Check.due("opens(" + n + ", true)", x.opens(n, true), opened[n - 1]);
        }
        x.box(5, 4);
        x.box(6, 1);
        Check.due("opens(6, true)", x.opens(6, true), 0);
        x.size(0, 3);
        Check.due("opens(6, true) with a shorter", x.opens(6, true), 6);
        Check.dueRefusals("opens", x, 0, 0, 0, 6, 0, 6);
    }

    private static void opensEachKind() {
        Check.sentence("OPENS: the KIND, 0 .. 6");
        int[] straights = {0, 1, 2, 6};
        for (int kind : straights) {
            TrackBox x = Check.boxed(0, 0, 0, 0, 0, 4, 0);
            Check.sizes(x, 10, 11, 12, 4, 6, 4, 13);
            Check.due("opens(6, false) of no straight", x.opens(6, false), -9);
            x.box(kind, 1);
            Check.due("opens(6, false) of a straight " + kind, x.opens(6, false), kind);
            x.box(kind, 2);
            Check.due("opens(6, false) of two", x.opens(6, false), -9);
        }
        for (int kind = 3; kind <= 4; kind++) {
            TrackBox x = Check.boxed(0, 0, 0, 0, 0, 3, 0);
            x.size(7 - kind, 9);
            x.size(kind, 4);
            Check.due("opens(5, false) of no eighth", x.opens(5, false), -9);
            x.box(kind, 1);
            Check.due("opens(5, false) of an eighth " + kind, x.opens(5, false), kind);
            x.box(kind, 2);
            Check.due("opens(5, false) of two", x.opens(5, false), -9);
        }
        TrackBox y = Check.boxed(0, 0, 0, 0, 0, 3, 0);
        Check.due("opens(4, false) of three quarters", y.opens(4, false), 5);
    }

    private static void opensMost() {
        Check.sentence("OPENS: of which one more would let most RINGS be, of several the least");
        TrackBox x = Check.boxed(0, 1, 1, 0, 0, 4, 0);
        Check.sizes(x, 4, 4, 4, 4, 6, 4, 4);
        Check.due("opens(6, false): a and x let two more be", x.opens(6, false), 0);
        x.size(0, 9);
        Check.due("opens(6, false): x lets two more be, b and c one", x.opens(6, false), 6);
        x.size(6, 9);
        Check.due("opens(6, false): b and c let one more be", x.opens(6, false), 1);
        x.box(1, 2);
        Check.due("opens(6, false): c lets one more be", x.opens(6, false), 2);
        x.box(0, 1);
        Check.due("opens(6, false): a, c, x let one more be", x.opens(6, false), 0);
        TrackBox y = Check.boxed(0, 0, 0, 1, 1, 3, 0);
        y.size(4, 4);
        Check.due("opens(5, false): l and m let two more be", y.opens(5, false), 3);
        y.box(3, 2);
        Check.due("opens(5, false): m lets two more be", y.opens(5, false), 4);
    }

    private static void opensMoreThanNow() {
        Check.sentence("OPENS: more than now, -9 none");
        TrackBox x = full();
        for (int n = 1; n <= 6; n++) {
            Check.due("opens(" + n + ", false) of all", x.opens(n, false), -9);
        }
        Check.due("opens(4, false) of an empty BOX", new TrackBox().opens(4, false), -9);
        TrackBox y = Check.boxed(2, 0, 0, 0, 0, 4, 0);
        Check.due("opens(6, false) of a ring that is", y.opens(6, false), 6);
        y.size(6, 5);
        Check.due("opens(6, false) of no more", y.opens(6, false), -9);
        y.box(5, 3);
        Check.due("opens(6, false) of one less", y.opens(6, false), 5);
        Check.dueRefusals("opens", x, 0, 0, 0, 0, 0, 0);
    }

    private static void opensNineAtMost() {
        Check.sentence("OPENS: one more (9 at most)");
        TrackBox x = Check.boxed(9, 0, 0, 0, 0, 3, 0);
        Check.due("opens(6, false) of nine straights", x.opens(6, false), 5);
        x.box(5, 9);
        x.box(6, 9);
        Check.due("opens(6, false) of nine quarters", x.opens(6, false), -9);
        x.box(6, 1);
        Check.due("opens(6, false) of nine quarters and a crossing", x.opens(6, false), 6);
        x.box(6, 8);
        Check.due("opens(6, false) of eight crossings", x.opens(6, false), -9);
        Check.due("count(1)", x.count(1), 26);
    }

    private static void opensOneMoreAlone() {
        Check.sentence("OPENS: one more, not two, nor one of each of two KINDS");
        TrackBox x = Check.boxed(0, 0, 0, 0, 0, 2, 0);
        Check.due("opens(4, false) of two quarters", x.opens(4, false), -9);
        x.box(5, 3);
        Check.due("opens(4, false) of three quarters", x.opens(4, false), 5);
        Check.due("opens(6, false) of three quarters", x.opens(6, false), -9);
        x.box(0, 1);
        Check.due("opens(6, false) of three quarters and a straight", x.opens(6, false), -9);
        x.box(0, 2);
        Check.due("opens(6, false) of three quarters and two straights", x.opens(6, false), 5);
        x.box(5, 4);
        x.box(0, 0);
        Check.due("opens(6, false) of four quarters", x.opens(6, false), -9);
    }

    private static void opensThatLies() {
        Check.sentence("OPENS: RINGS that LIE, if told");
        TrackBox x = Check.boxed(1, 1, 0, 0, 0, 4, 0);
        Check.due("opens(6, true)", x.opens(6, true), 0);
        x.table(1, 15);
        Check.due("opens(6, true) with no room for a", x.opens(6, true), 1);
        Check.due("opens(6, false) with no room for a", x.opens(6, false), 0);
        x.leg(4, 0);
        Check.due("opens(6, true) with no room for b", x.opens(6, true), -9);
        x.table(1, 400);
        Check.due("opens(6, true) with room for a", x.opens(6, true), 0);
        TrackBox y = Check.boxed(0, 0, 0, 0, 0, 3, 0);
        y.table(3, 16);
        Check.due("opens(4, true) on a table as wide", y.opens(4, true), 5);
        y.table(3, 15);
        Check.due("opens(4, true) on a small table", y.opens(4, true), -9);
        Check.due("opens(4, false) on a small table", y.opens(4, false), 5);
    }

    private static void opensChangesNothing() {
        Check.sentence("Promise 21: THE BOX and THE ROW stay");
        TrackBox x = Check.boxed(1, 1, 1, 1, 1, 3, 1);
        Check.lay(x, "xt");
        Check.due("opens(5, false)", x.opens(5, false), 3);
        for (int n = 1; n <= 6; n++) {
            x.opens(n, true);
        }
        Check.dueRow("opens", x, "xt");
        Check.due("count(1)", x.count(1), 9);
        for (int kind = 0; kind < 7; kind++) {
            Check.due("box(" + kind + ", 0)", x.box(kind, 0), kind == 5 ? 3 : 1);
        }
    }

    private static void dueNearest(TrackBox x, int n, String row) {
        Check.due("nearest(" + n + ")", x.nearest(n), 1);
        Check.dueRow("nearest(" + n + ")", x, row);
    }

    private static void nearestOfOneToFive() {
        Check.sentence("Promise 22: n 1 .. 5, -4, -6");
        TrackBox x = full();
        Check.lay(x, "xx");
        int[] below = {0, -1, LEAST};
        int[] above = {6, 7, GREATEST};
        for (int i = 0; i < 3; i++) {
            Check.due("nearest(" + below[i] + ")", x.nearest(below[i]), -4);
            Check.due("nearest(" + above[i] + ")", x.nearest(above[i]), -6);
        }
        Check.dueRefusals("nearest", x, 0, 0, 0, 3, 0, 3);
        Check.dueRow("nearest refused", x, "xx");
        String[] rows = {"c", "cc", "ccc", "cccc", "cqqqq"};
        for (int n = 1; n <= 5; n++) {
            dueNearest(x, n, rows[n - 1]);
        }
        Check.dueRefusals("nearest", x, 0, 0, 0, 3, 0, 3);
    }

    private static void nearestNone() {
        Check.sentence("NEAREST: -9 none (then THE ROW stays)");
        TrackBox x = Check.laid("xtq");
        for (int n = 1; n <= 5; n++) {
            Check.due("nearest(" + n + ") of an empty BOX", x.nearest(n), -9);
        }
        Check.dueRow("nearest that is none", x, "xtq");
        Check.dueJoint(x, 3, 24, 0, -16, 0, 0);
        x.box(2, 3);
        Check.due("nearest(4) of three", x.nearest(4), -9);
        Check.dueRow("nearest that is none", x, "xtq");
        dueNearest(x, 3, "ccc");
        Check.dueRefusals("nearest", x, 0, 0, 0, 0, 0, 0);
    }

    private static void nearestInDirection0() {
        Check.sentence("NEAREST: that end in DIRECTION 0");
        TrackBox x = Check.boxed(0, 0, 0, 1, 0, 1, 0);
        for (int n = 1; n <= 5; n++) {
            Check.due("nearest(" + n + ") of an eighth and a quarter", x.nearest(n), -9);
        }
        x.box(3, 2);
        Check.due("nearest(1)", x.nearest(1), -9);
        dueNearest(x, 2, "lr");
        dueNearest(x, 3, "llt");
        TrackBox y = Check.boxed(0, 0, 0, 9, 9, 0, 0);
        Check.due("nearest(1) of eighths", y.nearest(1), -9);
        Check.due("nearest(3) of eighths", y.nearest(3), -9);
        Check.due("nearest(5) of eighths", y.nearest(5), -9);
        dueNearest(y, 4, "llrr");
        TrackBox z = Check.boxed(0, 0, 0, 0, 9, 9, 0);
        dueNearest(z, 5, "mqmqq");
        Check.due("DIRECTION of mqmqq, once around", z.joint(5, 4), 0);
    }

    private static void nearestDoesNotClose() {
        Check.sentence("NEAREST: but do not CLOSE");
        TrackBox x = rounded(0);
        dueNearest(x, 4, "qqtt");
        Check.due("closes() of qqtt", x.closes(), 0);
        TrackBox y = Check.boxed(0, 0, 0, 2, 0, 3, 0);
        dueNearest(y, 5, "llqtt");
        Check.due("closes() of the nearest", y.closes(), 0);
        y.ring(5, false, 0);
        Check.due("closes() of the ring", y.closes(), 1);
    }

    private static void nearestUsesWhatThereIs() {
        Check.sentence("NEAREST: that USE what there is");
        TrackBox x = Check.boxed(2, 1, 1, 0, 0, 0, 0);
        dueNearest(x, 1, "c");
        dueNearest(x, 2, "bc");
        dueNearest(x, 3, "abc");
        dueNearest(x, 4, "aabc");
        Check.due("uses()", x.uses(), 1);
        Check.due("nearest(5)", x.nearest(5), -9);
        x.box(6, 1);
        dueNearest(x, 5, "aabcx");
        x.box(2, 2);
        dueNearest(x, 2, "cc");
        TrackBox y = Check.boxed(0, 0, 0, 1, 1, 0, 0);
        Check.due("nearest(2) of an eighth of each size", y.nearest(2), 1);
        Check.dueRow("nearest(2)", y, "ls");
        TrackBox z = Check.boxed(0, 0, 0, 1, 0, 0, 0);
        Check.due("nearest(2) of one eighth", z.nearest(2), -9);
    }

    private static void nearestFirstByLetters() {
        Check.sentence("NEAREST: of several the first by letters");
        TrackBox x = Check.boxed(1, 1, 1, 0, 0, 0, 1);
        Check.sizes(x, 5, 5, 5, 4, 6, 4, 5);
        dueNearest(x, 1, "a");
        dueNearest(x, 2, "ab");
        dueNearest(x, 3, "abc");
        dueNearest(x, 4, "abcx");
        x.size(6, 4);
        dueNearest(x, 1, "x");
        dueNearest(x, 2, "ax");
        dueNearest(x, 3, "abx");
        TrackBox y = Check.boxed(0, 0, 0, 2, 2, 2, 0);
        y.size(4, 4);
        dueNearest(y, 2, "lr");
        dueNearest(y, 4, "llss");
        TrackBox z = Check.boxed(0, 0, 0, 0, 0, 2, 0);
        dueNearest(z, 2, "qt");
    }

    private static void nearestLeastGapExactly() {
        Check.sentence("NEAREST: the least GAP, of WHOLE and ROOT");
        TrackBox x = fullOfOneSize();
        x.box(2, 0);
        dueNearest(x, 2, "lr");
        x.box(3, 0);
        dueNearest(x, 2, "ms");
        x.box(4, 0);
        dueNearest(x, 2, "aa");
        Check.sentence("NEAREST: the least GAP, exactly");
        TrackBox y = Check.boxed(2, 0, 1, 1, 2, 1, 0);
        Check.sizes(y, 16, 2, 4, 16, 17, 4, 2);
        dueNearest(y, 3, "lmt");
        TrackBox z = Check.boxed(0, 1, 2, 2, 0, 2, 0);
        Check.sizes(z, 19, 11, 12, 6, 19, 8, 18);
        dueNearest(z, 3, "llt");
    }

    private static void nearestLiesOrNot() {
        Check.sentence("NEAREST: whether it LIES does not matter");
        TrackBox x = full();
        x.table(0, 400);
        x.leg(2, 0);
        dueNearest(x, 1, "c");
        Check.due("lies()", x.lies(), 0);
    }

    private static void turnWithin() {
        Check.sentence("Promise 23: TURNS -2 .. 2, -4, -6");
        TrackBox x = new TrackBox();
        Check.due("turn(-3)", x.turn(-3), -4);
        Check.due("turn(least)", x.turn(LEAST), -4);
        Check.due("turn(3)", x.turn(3), -6);
        Check.due("turn(greatest)", x.turn(GREATEST), -6);
        Check.due("count(4)", x.count(4), 0);
        Check.dueRefusals("turn", x, 0, 0, 0, 2, 0, 2);
        for (int v = -2; v <= 2; v++) {
            Check.due("turn(" + v + ")", x.turn(v), v + 3);
        }
        Check.due("count(4)", x.count(4), 5);
    }

    private static void turnSixAtMost() {
        Check.sentence("TURNS: 6 at most, -6");
        TrackBox x = rounded(2);
        int[] turns = {0, 2, 2, 0, 2, 2};
        for (int i = 0; i < 6; i++) {
            Check.due("turn(" + turns[i] + ")", x.turn(turns[i]), i + 1);
        }
        Check.due("a seventh turn", x.turn(0), -6);
        Check.due("count(4)", x.count(4), 6);
        Check.dueRefusals("turn", x, 0, 0, 0, 0, 0, 1);
        Check.due("photo() of the six", x.photo(), 1);
        Check.due("a turn behind photo()", x.turn(2), 1);
    }

    private static void turnOrderOfRefusals() {
        Check.sentence("Promise 23: -4 ahead of -6");
        TrackBox x = new TrackBox();
        for (int i = 0; i < 6; i++) {
            x.turn(0);
        }
        Check.due("turn(-3), a seventh", x.turn(-3), -4);
        Check.due("turn(3), a seventh", x.turn(3), -6);
        Check.due("turn(2), a seventh", x.turn(2), -6);
        Check.due("turn(-2), a seventh", x.turn(-2), -6);
        Check.dueRefusals("turn", x, 0, 0, 0, 1, 0, 3);
    }

    private static void duePhoto(TrackBox x, int want, int... turns) {
        StringBuilder call = new StringBuilder("photo() of");
        for (int v : turns) {
            x.turn(v);
            call.append(' ').append(v);
        }
        Check.due(call.toString(), x.photo(), want);
    }

    private static void photoWithoutTurns() {
        Check.sentence("Promise 24: 0 without TURNS");
        TrackBox x = full();
        Check.due("photo()", x.photo(), 0);
        duePhoto(x, 1, 2, 2, 2, 2);
        Check.due("photo() once more", x.photo(), 0);
        Check.due("photo() of an empty BOX", new TrackBox().photo(), 0);
        Check.dueRefusals("photo", x, 0, 0, 0, 0, 0, 0);
    }

    private static void photoOfEachTurn() {
        Check.sentence("PHOTO: 0 is a b c x, 1 l m, -1 r s, 2 q, -2 t");
        TrackBox x = fullOfOneSize();
        duePhoto(x, 1, 2, 2, 2, 2);
        duePhoto(x, 1, -2, -2, -2, -2);
        duePhoto(x, 4, 1, 1, 2, 2, 2);
        duePhoto(x, 4, -1, -1, -2, -2, -2);
        duePhoto(x, 16, 0, 2, 2, 0, 2, 2);
        duePhoto(x, 16, 0, -2, -2, 0, -2, -2);
        duePhoto(x, 16, 1, 1, 2, 1, 1, 2);
        duePhoto(x, 16, -1, -1, -2, -1, -1, -2);
        TrackBox y = full();
        duePhoto(y, 1, 1, 1, 2, 2, 2);
        duePhoto(y, 6, 0, 2, 2, 0, 2, 2);
        duePhoto(y, 4, 1, 1, 2, 1, 1, 2);
        duePhoto(y, 1, 1, 2, 2, 1, 2);
        duePhoto(y, 0, 1, 2, 2, 2, 0);
        duePhoto(y, 0, 2, 2, -2, -2);
    }

    private static void photoOfOneToSix() {
        Check.sentence("PHOTO: one TURN for each PIECE");
        TrackBox x = full();
        duePhoto(x, 0, 0);
        duePhoto(x, 0, 2);
        duePhoto(x, 0, 0, 0);
        duePhoto(x, 0, 1, -1);
        duePhoto(x, 0, 2, 2, 2);
        duePhoto(x, 1, 2, 2, 2, 2);
        duePhoto(x, 0, 2, 2, 2, 2, 0);
        duePhoto(x, 1, 2, 1, 2, 1, 2);
        duePhoto(x, 6, 2, 0, 2, 2, 0, 2);
        duePhoto(x, 0, 2, 2, 2, 2, 2, 2);
    }

    private static void photoUsesAndCloses() {
        Check.sentence("PHOTO: how many ROWS that USE what there is and CLOSE");
        TrackBox x = Check.boxed(1, 0, 0, 0, 0, 4, 1);
        duePhoto(x, 2, 0, 2, 2, 0, 2, 2);
        x.box(6, 2);
        duePhoto(x, 3, 0, 2, 2, 0, 2, 2);
        x.box(0, 2);
        duePhoto(x, 4, 0, 2, 2, 0, 2, 2);
        x.size(6, 5);
        duePhoto(x, 2, 0, 2, 2, 0, 2, 2);
        x.box(5, 3);
        duePhoto(x, 0, 0, 2, 2, 0, 2, 2);
        duePhoto(x, 0, 2, 2, 2, 2);
        x.box(5, 4);
        duePhoto(x, 1, 2, 2, 2, 2);
        Check.sentence("PHOTO: ALIKE ROWS count apart, and LIES does not matter");
        x.table(0, 400);
        x.leg(0, 0);
        duePhoto(x, 2, 0, 2, 2, 0, 2, 2);
    }

    private static void photoTurnsAreNoneThen() {
        Check.sentence("Promise 24: the TURNS are none then");
        TrackBox x = rounded(0);
        duePhoto(x, 1, 2, 2, 2, 2);
        Check.due("count(4)", x.count(4), 0);
        duePhoto(x, 0, 0);
        Check.due("count(4)", x.count(4), 0);
        duePhoto(x, 0, 0, 0, 0, 0, 0, 0);
        Check.due("count(4)", x.count(4), 0);
        duePhoto(x, 1, 2, 2, 2, 2);
        Check.due("turn(2)", x.turn(2), 1);
    }

    private static void photoChangesNoRow() {
        Check.sentence("Promise 24: THE ROW and THE BOX stay");
        TrackBox x = full();
        Check.lay(x, "xt");
        duePhoto(x, 1, 2, 2, 2, 2);
        Check.dueRow("photo", x, "xt");
        Check.due("count(1)", x.count(1), 63);
        for (int i = 0; i < 3; i++) {
            duePhoto(x, 6, 0, 2, 2, 0, 2, 2);
        }
    }

    private static void imageAndOn() {
        Check.sentence("Promises 25 and 26: how many PIECES THE ROW has");
        TrackBox x = new TrackBox();
        Check.due("image() of none", x.image(), 0);
        Check.due("on() of none", x.on(), 0);
        Check.lay(x, Check.repeated("a", 24));
        Check.due("on() of none over 24", x.on(), 0);
        Check.dueRow("on", x, "");
        Check.lay(x, Check.repeated("x", 24));
        Check.due("image() of 24", x.image(), 24);
        x.row();
        Check.due("on() of 24 over none", x.on(), 24);
        Check.dueRow("on", x, Check.repeated("x", 24));
    }

    private static void imageOfTheBox() {
        Check.sentence("THE IMAGE: THE BOX, how MANY and SIZES");
        TrackBox x = Check.boxed(1, 2, 3, 4, 5, 6, 7);
        Check.sizes(x, 8, 9, 10, 11, 12, 13, 14);
        x.image();
        for (int kind = 0; kind < 7; kind++) {
            x.box(kind, 0);
            x.size(kind, 20);
        }
        x.on();
        Check.due("count(1)", x.count(1), 28);
        for (int kind = 0; kind < 7; kind++) {
            Check.due("box(" + kind + ", 9)", x.box(kind, 9), kind + 1);
            Check.due("size(" + kind + ", 1)", x.size(kind, 1), kind + 8);
        }
        x.on();
        Check.lay(x, "ax");
        Check.dueJoint(x, 2, 44, 0, 0, 0, 0);
        TrackBox y = fullOfOneSize();
        y.image();
        y.size(5, 5);
        Check.due("rings(6, false) with longer quarters", y.rings(6, false), 17);
        y.on();
        Check.due("rings(6, false) on from the image", y.rings(6, false), 39);
        Check.due("photo() on from the image", y.photo(), 0);
        duePhoto(y, 16, 1, 1, 2, 1, 1, 2);
    }

    private static void imageOfTheRow() {
        Check.sentence("THE IMAGE: THE ROW");
        TrackBox x = Check.laid("abcq");
        x.image();
        Check.lay(x, "xxxxxx");
        x.on();
        Check.dueRow("on", x, "abcq");
        Check.dueJoint(x, 4, 22, 0, 8, 0, 2);
        x.box(5, 4);
        x.ring(4, false, 0);
        x.on();
        Check.dueRow("on behind ring()", x, "abcq");
        x.box(2, 1);
        x.nearest(1);
        Check.dueRow("nearest(1)", x, "c");
        x.on();
        Check.dueRow("on behind nearest()", x, "abcq");
        Check.due("uses()", x.uses(), 0);
    }

    private static void imageOfTheTable() {
        Check.sentence("THE IMAGE: TABLE");
        TrackBox x = Check.laid("qqqq");
        for (int side = 0; side < 4; side++) {
            x.table(side, new int[] {-8, 8, 0, 16}[side]);
        }
        x.image();
        for (int side = 0; side < 4; side++) {
            x.table(side, 3);
        }
        Check.due("off()", x.off(), 0);
        x.on();
        Check.due("off() on from the image", x.off(), -9);
        for (int side = 0; side < 4; side++) {
            Check.due("table(" + side + ", 3)", x.table(side, 3), new int[] {-8, 8, 0, 16}[side]);
        }
    }

    private static void imageOfLegs() {
        Check.sentence("THE IMAGE: LEGS");
        TrackBox x = Check.laid("q");
        x.leg(8, 8);
        x.image();
        x.leg(0, 0);
        Check.due("off()", x.off(), 0);
        x.on();
        Check.due("off() on from the image", x.off(), 1);
        Check.due("count(2)", x.count(2), 1);
        Check.due("a LEG more", x.leg(1, 1), 2);
        for (int i = 3; i <= 6; i++) {
            Check.due("a LEG more", x.leg(i, i), i);
        }
        Check.due("a seventh LEG", x.leg(7, 7), -6);
        x.image();
        x.on();
        Check.due("a seventh LEG", x.leg(7, 7), -6);
        TrackBox y = Check.laid("q");
        y.image();
        y.leg(8, 8);
        Check.due("off() at a LEG", y.off(), 1);
        y.on();
        Check.due("off() on from an image of no LEG", y.off(), -9);
        Check.due("count(2)", y.count(2), 0);
        Check.due("a LEG more", y.leg(9, 9), 1);
        Check.due("off() beside it", y.off(), -9);
    }

    private static void imageLeavesTapeTurnsAndRefusals() {
        Check.sentence("ON: THE TAPE and TURNS as they are");
        TrackBox x = rounded(0);
        Check.feed(x, "ab");
        x.turn(1);
        x.box(7, 0);
        x.image();
        Check.due("count(3) behind image()", x.count(3), 2);
        Check.due("count(4) behind image()", x.count(4), 1);
        x.photo();
        x.row();
        Check.feed(x, "xxx");
        x.turn(2);
        x.turn(2);
        x.turn(2);
        x.turn(2);
        x.box(7, 0);
        x.box(7, 0);
        x.on();
        Check.due("count(3) behind on()", x.count(3), 3);
        Check.due("count(4) behind on()", x.count(4), 4);
        Check.due("photo() of the TURNS as they are", x.photo(), 1);
        Check.due("row() of THE TAPE as it is", x.row(), 3);
        Check.dueRow("row()", x, "xxx");
        Check.sentence("ON: REFUSALS as they are");
        Check.dueRefusals("on", x, 3, 0, 0, 0, 0, 0);
    }

    private static void imageAnew() {
        Check.sentence("Promise 25: THE IMAGE is taken: the last one counts");
        TrackBox x = Check.laid("a");
        Check.due("image()", x.image(), 1);
        Check.lay(x, "bb");
        Check.due("image()", x.image(), 2);
        Check.lay(x, "ccc");
        Check.due("on()", x.on(), 2);
        Check.dueRow("on", x, "bb");
        Check.due("on()", x.on(), 2);
        Check.dueRow("on", x, "bb");
    }

    private static void onWithoutImage() {
        Check.sentence("Promise 26: -3 there is none");
        TrackBox x = Check.laid("ab");
        Check.due("on()", x.on(), -3);
        Check.due("on()", x.on(), -3);
        Check.dueRow("on refused", x, "ab");
        Check.dueRefusals("on", x, 0, 0, 2, 0, 0, 0);
        x.image();
        Check.due("on()", x.on(), 2);
        Check.dueRefusals("on", x, 0, 0, 2, 0, 0, 0);
    }

    private static void onAgain() {
        Check.sentence("ON from it (again, too): these are as then, whatever was done since");
        TrackBox x = Check.boxed(0, 0, 0, 0, 0, 4, 0);
        Check.lay(x, "qtq");
        x.leg(8, 8);
        x.image();
        for (int i = 0; i < 3; i++) {
            Check.due("on()", x.on(), 3);
            Check.due("on() twice", x.on(), 3);
            Check.dueRow("on", x, "qtq");
            Check.due("off()", x.off(), 1);
            Check.due("box(5, 9)", x.box(5, 9), 4);
            Check.due("size(5, 9)", x.size(5, 9), 4);
            Check.due("table(0, 9)", x.table(0, 9), -400);
            Check.due("leg(1, 1)", x.leg(1, 1), 2);
            Check.lay(x, "xxxx");
        }
    }

    private static void countWhats() {
        Check.sentence("Promise 27: -9 for another what");
        TrackBox x = Check.laid("ab");
        int[] others = {-1, 5, 6, 7, 8, 9, 10, 17, 18, LEAST, GREATEST, -11, -16};
        for (int what : others) {
            Check.due("count(" + what + ")", x.count(what), -9);
        }
        int[] known = {0, 1, 2, 3, 4, 11, 12, 13, 14, 15, 16};
        for (int what : known) {
            Check.due("count(" + what + ")", x.count(what), what == 0 ? 2 : 0);
        }
    }

    private static void countOfEach() {
        Check.sentence("Promise 27: 0 PIECES of THE ROW, 1 of THE BOX, 2 LEGS, 3 bytes on THE TAPE, 4 TURNS");
        TrackBox x = full();
        Check.lay(x, Check.repeated("x", 24));
        Check.feed(x, Check.repeated("a", 24));
        for (int i = 0; i < 6; i++) {
            x.leg(i, i);
            x.turn(0);
        }
        Check.due("count(0) of the most", x.count(0), 24);
        Check.due("count(1) of the most", x.count(1), 63);
        Check.due("count(2) of the most", x.count(2), 6);
        Check.due("count(3) of the most", x.count(3), 24);
        Check.due("count(4) of the most", x.count(4), 6);
        TrackBox y = Check.boxed(1, 0, 0, 0, 0, 0, 0);
        Check.lay(y, "xx");
        y.leg(1, 1);
        y.leg(1, 1);
        y.leg(1, 1);
        Check.feed(y, "zzzz");
        for (int i = 0; i < 5; i++) {
            y.turn(i - 2);
        }
        Check.due("count(0)", y.count(0), 2);
        Check.due("count(1)", y.count(1), 1);
        Check.due("count(2)", y.count(2), 3);
        Check.due("count(3)", y.count(3), 4);
        Check.due("count(4)", y.count(4), 5);
    }

    private static void countOfRefusals() {
        Check.sentence("Promise 27: 11 .. 16 REFUSALS -1 .. -6");
        TrackBox x = new TrackBox();
        for (int i = 0; i < 6; i++) {
            x.box(-1, 0);
        }
        for (int i = 0; i < 5; i++) {
            x.gap(2);
        }
        for (int i = 0; i < 4; i++) {
            x.on();
        }
        for (int i = 0; i < 3; i++) {
            x.feed(0, 0L);
        }
        x.nearest(6);
        Check.dueRefusals("count", x, 6, 5, 4, 3, 0, 1);
        x.joint(1, 0);
        x.joint(0, 5);
        x.table(4, 0);
        x.table(0, 401);
        x.table(0, -401);
        Check.dueRefusals("count", x, 7, 7, 4, 4, 0, 2);
        Check.sentence("REFUSALS: -9 is none");
        x.piece(0);
        x.ring(4, false, 0);
        x.ring(4, false, -1);
        x.most(true);
        x.opens(4, true);
        x.nearest(1);
        x.off();
        x.touches();
        x.count(99);
        Check.dueRefusals("count behind -9", x, 7, 7, 4, 4, 0, 2);
    }
}
