import java.util.ArrayList;
import java.util.List;

/**
 * Each call that is refused changes nothing but the count of its REFUSAL: of two objects of one
 * state one is called, and then all is asked of both. So do calls that only ask, and those that
 * answer -9, change nothing at all.
 */
public final class Refusals {
    private static final int MOST = 1000000;

    public static void main(String[] args) {
        int calls = 0;
        for (State state : State.values()) {
            List<Call> refused = refusedAnywhere();
            refusedHere(state, refused);
            for (Call call : refused) {
                changesNothingElse(state, call, 1);
            }
            List<Call> asked = onlyAsking(state);
            for (Call call : asked) {
                changesNothingElse(state, call, 0);
            }
            faultChangesNothing(state);
            calls += refused.size() + asked.size();
        }
        Check.end(calls + " calls change nothing but the counts of REFUSALS");
    }

    /** What the calls are tried on. */
    private enum State { NEW, SOME, IMAGED, FULL }

    private interface Asks {
        int of(TrackBox x);
    }

    /** A call and the REFUSAL that is due, or 0 for a call that is not refused. */
    private record Call(String name, int refusal, boolean far, Asks asks) {
        int due() {
            return far ? Check.FAR - refusal : refusal;
        }
    }

    private static TrackBox made(State state) {
        TrackBox x = new TrackBox();
        if (state == State.NEW) {
            return x;
        }
        for (int kind = 0; kind < 7; kind++) {
            x.box(kind, state == State.FULL ? 9 : (kind + 3) % 5);
            x.size(kind, state == State.FULL ? 20 : 3 + kind % 2);
        }
        x.leg(16, 0);
        x.table(3, 300);
        Check.lay(x, "lqxt");
        if (state != State.SOME) {
            x.image();
        }
        if (state == State.FULL) {
            fill(x);
        } else {
            x.leg(10, 0);
            x.table(0, -30);
            x.box(5, 4);
            Check.lay(x, "aqqaqqbx");
            Check.feed(x, "abclmrsqtxabclmrsqtx");
            x.turn(2);
            x.turn(2);
            x.turn(2);
        }
        x.joint(-1, 0);
        x.feed(9, 0L);
        return x;
    }

    private static void fill(TrackBox x) {
        for (int i = 1; i <= 5; i++) {
            x.leg(2 * i, 0);
        }
        for (int i = 0; i < 6; i++) {
            x.turn(i % 3 == 0 ? 0 : 2);
        }
        x.table(0, -400);
        Check.lay(x, "abclmrsqtxabclmrsqtxabcl");
        Check.feed(x, "xtqsrmlcbaxtqsrmlcbaxtqs");
    }

    private static void changesNothingElse(State state, Call call, int counted) {
        Check.sentence("Nothing changes but how many REFUSALS there were: " + state);
        TrackBox called = made(state);
        TrackBox other = made(state);
        int answer = call.asks().of(called);
        if (counted > 0) {
            Check.due(call.name(), answer, call.due());
        }
        compare(call.name(), called, other, counted == 0 ? 0 : call.refusal());
    }

    private static void compare(String name, TrackBox called, TrackBox other, int refusal) {
        for (int what = 11; what <= 16; what++) {
            int more = what == 10 - refusal && refusal < 0 ? 1 : 0;
            Check.due(name + ", then count(" + what + ")", called.count(what), other.count(what) + more);
        }
        Check.due(name + ", then all else", told(called), told(other));
    }

    /** All that an object tells; nothing is left as it was. */
    private static String told(TrackBox x) {
        StringBuilder text = new StringBuilder();
        for (int what = 0; what <= 4; what++) {
            text.append(" count ").append(x.count(what));
        }
        tellRow(x, text);
        text.append(" photo ").append(x.photo());
        text.append(" tape ").append(x.row()).append(Check.told(x));
        tellBoxAndTable(x, text);
        tellLegs(x, text);
        text.append(" on ").append(x.on()).append(Check.told(x));
        tellBoxAndTable(x, text);
        tellLegs(x, text);
        return text.toString();
    }

    private static void tellRow(TrackBox x, StringBuilder text) {
        text.append(" row ").append(Check.told(x));
        int pieces = x.count(0);
        for (int i = 0; i <= pieces; i++) {
            text.append(" joint ");
            for (int what = 0; what <= 4; what++) {
                text.append(x.joint(i, what)).append(' ');
            }
        }
        text.append(x.closes()).append(x.uses()).append(x.off()).append(x.touches()).append(x.lies());
        text.append(" rings ").append(x.rings(6, false)).append(' ').append(x.rings(4, true));
        text.append(" most ").append(x.most(true)).append(" opens ").append(x.opens(5, false));
    }

    private static void tellBoxAndTable(TrackBox x, StringBuilder text) {
        text.append(" box");
        for (int kind = 0; kind < 7; kind++) {
            text.append(' ').append(x.box(kind, 9)).append(' ').append(x.size(kind, 20));
        }
        text.append(" table");
        for (int side = 0; side < 4; side++) {
            text.append(' ').append(x.table(side, side % 2 == 0 ? -400 : 400));
        }
    }

    private static void tellLegs(TrackBox x, StringBuilder text) {
        text.append(" legs ").append(x.count(2));
        for (int size = 1; size <= 8; size++) {
            x.size(0, size);
            x.feed(1, 97L);
            x.row();
            text.append(' ').append(x.off());
        }
    }

    private static void add(List<Call> calls, String name, int refusal, Asks asks) {
        calls.add(new Call(name, refusal, false, asks));
    }

    private static void addFar(List<Call> calls, String name, int refusal, Asks asks) {
        calls.add(new Call(name, refusal, true, asks));
    }

    private static List<Call> refusedAnywhere() {
        List<Call> calls = new ArrayList<>();
        refusedOfTheBox(calls);
        refusedOfNumbers(calls);
        refusedOfTheTable(calls);
        refusedOfRings(calls);
        return calls;
    }

    private static void refusedOfTheBox(List<Call> calls) {
        add(calls, "feed(0, a)", -4, x -> x.feed(0, 97L));
        add(calls, "feed(-1, a)", -4, x -> x.feed(-1, 97L));
        add(calls, "feed(9, a)", -6, x -> x.feed(9, 97L));
        add(calls, "box(-1, 1)", -1, x -> x.box(-1, 1));
        add(calls, "box(7, 1)", -1, x -> x.box(7, 1));
        add(calls, "size(-1, 1)", -1, x -> x.size(-1, 1));
        add(calls, "size(7, 1)", -1, x -> x.size(7, 1));
        for (int k = 0; k < 7; k++) {
            int kind = k;
            add(calls, "box(" + kind + ", -1)", -4, x -> x.box(kind, -1));
            add(calls, "box(" + kind + ", 10)", -6, x -> x.box(kind, 10));
            add(calls, "size(" + kind + ", 0)", -4, x -> x.size(kind, 0));
            add(calls, "size(" + kind + ", 21)", -6, x -> x.size(kind, 21));
        }
    }

    private static void refusedOfNumbers(List<Call> calls) {
        addFar(calls, "joint(-1, 0)", -1, x -> x.joint(-1, 0));
        addFar(calls, "joint(25, 0)", -1, x -> x.joint(25, 0));
        addFar(calls, "joint(0, -1)", -2, x -> x.joint(0, -1));
        addFar(calls, "joint(0, 5)", -2, x -> x.joint(0, 5));
        add(calls, "sign(1000001, 0)", -3, x -> x.sign(MOST + 1, 0));
        add(calls, "sign(-1000001, 0)", -3, x -> x.sign(-MOST - 1, 0));
        add(calls, "sign(0, 1000001)", -3, x -> x.sign(0, MOST + 1));
        add(calls, "sign(0, -1000001)", -3, x -> x.sign(0, -MOST - 1));
        addFar(calls, "gap(-1)", -2, x -> x.gap(-1));
        addFar(calls, "gap(2)", -2, x -> x.gap(2));
        add(calls, "nearer(-1000001, 0)", -4, x -> x.nearer(-MOST - 1, 0));
        add(calls, "nearer(0, -1000001)", -4, x -> x.nearer(0, -MOST - 1));
        add(calls, "nearer(1000001, 0)", -6, x -> x.nearer(MOST + 1, 0));
        add(calls, "nearer(0, 1000001)", -6, x -> x.nearer(0, MOST + 1));
        add(calls, "nearer(1000001, -1000001)", -4, x -> x.nearer(MOST + 1, -MOST - 1));
    }

    private static void refusedOfTheTable(List<Call> calls) {
        addFar(calls, "table(-1, 0)", -2, x -> x.table(-1, 0));
        addFar(calls, "table(4, 0)", -2, x -> x.table(4, 0));
        for (int s = 0; s < 4; s++) {
            int side = s;
            addFar(calls, "table(" + side + ", -401)", -4, x -> x.table(side, -401));
            addFar(calls, "table(" + side + ", 401)", -6, x -> x.table(side, 401));
        }
        add(calls, "leg(-401, 0)", -4, x -> x.leg(-401, 0));
        add(calls, "leg(0, -401)", -4, x -> x.leg(0, -401));
        add(calls, "leg(401, 0)", -6, x -> x.leg(401, 0));
        add(calls, "leg(0, 401)", -6, x -> x.leg(0, 401));
        add(calls, "leg(401, -401)", -4, x -> x.leg(401, -401));
    }

    private static void refusedOfRings(List<Call> calls) {
        for (int l = 0; l < 2; l++) {
            boolean lie = l == 1;
            add(calls, "rings(0, " + lie + ")", -4, x -> x.rings(0, lie));
            add(calls, "rings(7, " + lie + ")", -6, x -> x.rings(7, lie));
            add(calls, "ring(0, " + lie + ", 0)", -4, x -> x.ring(0, lie, 0));
            add(calls, "ring(7, " + lie + ", 0)", -6, x -> x.ring(7, lie, 0));
            add(calls, "ring(0, " + lie + ", -1)", -4, x -> x.ring(0, lie, -1));
            add(calls, "ring(7, " + lie + ", -1)", -6, x -> x.ring(7, lie, -1));
            add(calls, "opens(0, " + lie + ")", -4, x -> x.opens(0, lie));
            add(calls, "opens(7, " + lie + ")", -6, x -> x.opens(7, lie));
        }
        add(calls, "nearest(0)", -4, x -> x.nearest(0));
        add(calls, "nearest(6)", -6, x -> x.nearest(6));
        add(calls, "turn(-3)", -4, x -> x.turn(-3));
        add(calls, "turn(3)", -6, x -> x.turn(3));
    }

    /** Calls that are refused in some states alone. */
    private static void refusedHere(State state, List<Call> calls) {
        int joints = state == State.NEW ? 0 : state == State.FULL ? 24 : 8;
        addFar(calls, "joint(" + (joints + 1) + ", 4)", -1, x -> x.joint(joints + 1, 4));
        addFar(calls, "joint(" + joints + ", 5)", -2, x -> x.joint(joints, 5));
        if (state == State.NEW || state == State.SOME) {
            add(calls, "on()", -3, x -> x.on());
        }
        if (state == State.SOME || state == State.IMAGED) {
            add(calls, "feed(5, a) on 20", -6, x -> x.feed(5, 0x6161616161L));
            add(calls, "feed(8, a) on 20", -6, x -> x.feed(8, 0x6161616161616161L));
        }
        if (state == State.FULL) {
            add(calls, "feed(1, a) on 24", -6, x -> x.feed(1, 97L));
            add(calls, "feed(0, a) on 24", -4, x -> x.feed(0, 97L));
            add(calls, "leg(14, 0), a seventh", -6, x -> x.leg(14, 0));
            add(calls, "leg(-401, 0), a seventh", -4, x -> x.leg(-401, 0));
            add(calls, "turn(0), a seventh", -6, x -> x.turn(0));
            add(calls, "turn(-3), a seventh", -4, x -> x.turn(-3));
        }
    }

    /** Calls that only ask, or find none. */
    private static List<Call> onlyAsking(State state) {
        List<Call> calls = new ArrayList<>();
        add(calls, "piece(0)", 0, x -> x.piece(0));
        add(calls, "piece(-1)", 0, x -> x.piece(-1));
        add(calls, "piece(24)", 0, x -> x.piece(24));
        add(calls, "joint(0, 4)", 0, x -> x.joint(0, 4));
        add(calls, "closes()", 0, x -> x.closes());
        add(calls, "uses()", 0, x -> x.uses());
        add(calls, "sign(1, -1)", 0, x -> x.sign(1, -1));
        add(calls, "gap(1)", 0, x -> x.gap(1));
        add(calls, "nearer(5, 5)", 0, x -> x.nearer(5, 5));
        add(calls, "off()", 0, x -> x.off());
        add(calls, "touches()", 0, x -> x.touches());
        add(calls, "lies()", 0, x -> x.lies());
        for (int i = 1; i <= 6; i++) {
            int n = i;
            add(calls, "rings(" + n + ", true)", 0, x -> x.rings(n, true));
            add(calls, "rings(" + n + ", false)", 0, x -> x.rings(n, false));
            add(calls, "ring(" + n + ", true, -1)", 0, x -> x.ring(n, true, -1));
            add(calls, "ring(" + n + ", true, 99)", 0, x -> x.ring(n, true, 99));
            add(calls, "opens(" + n + ", false)", 0, x -> x.opens(n, false));
            add(calls, "opens(" + n + ", true)", 0, x -> x.opens(n, true));
        }
        add(calls, "most(true)", 0, x -> x.most(true));
        add(calls, "most(false)", 0, x -> x.most(false));
        for (int w = -1; w <= 17; w++) {
            int what = w;
            add(calls, "count(" + what + ")", 0, x -> x.count(what));
        }
        if (state == State.NEW) {
            add(calls, "nearest(3) of none", 0, x -> x.nearest(3));
            add(calls, "photo() of none", 0, x -> x.photo());
            add(calls, "row() of none", 0, x -> x.row());
        }
        return calls;
    }

    /** A FAULT leaves THE TAPE with none, and changes nothing else. */
    private static void faultChangesNothing(State state) {
        Check.sentence("By a FAULT nothing is counted, THE ROW stays: " + state);
        TrackBox called = made(state);
        TrackBox other = made(state);
        called.row();
        other.row();
        called.feed(3, 0x616461L);
        Check.due("row() of ada", called.row(), -21);
        compare("row() of ada", called, other, 0);
    }
}
