import java.util.ArrayList;
import java.util.List;

/**
 * The words that stand ahead of the calls, 'TURN, then BAD', and the term that tells when TURN is answered; wrong
 * numbers as every argument; and that a refused call, and one that only tells, leaves all as it was.
 */
public final class RefusalTest extends Due {
    private static final int NODES = 4;
    private static final int[] NO_NODE = {
        LOW, LOW + 1, -65536, -256, -17, -16, -4, -3, -2, -1,
        NODES, NODES + 1, 15, 16, 17, 255, 256, 65536, 1 << 28, HIGH - 1, HIGH};
    private static final int[] NO_LENGTH = {LOW, LOW + 1, -1000, -1, 0, 1001, 1002, 65537, HIGH - 1, HIGH};
    private static final int[] NO_SIDE = {LOW, LOW + 1, -2, -1, 2, 3, 16, 256, HIGH - 1, HIGH};
    /** k = -1 is not wrong, but asks how many. */
    private static final int[] NO_K = {LOW, LOW + 1, -256, -16, -3, -2, 4, 5, 15, 16, 17, 256, HIGH - 1, HIGH};
    private static final int[] NO_STATION = {LOW, LOW + 1, -256, -16, -3, -2, -1, 4, 5, 15, 16, 256, HIGH - 1, HIGH};
    private static final int[] NO_SHORTCUT = {LOW, LOW + 1, -2, 2, 3, 16, 1119, 1120, 1121, 65536, HIGH - 1, HIGH};
    private static final int[] NO_WHAT_OF_TWO = {LOW, LOW + 1, -2, -1, 2, 3, 4, HIGH - 1, HIGH};
    private static final int[] NO_WHAT_OF_FOUR = {LOW, LOW + 1, -2, -1, 4, 5, 16, HIGH - 1, HIGH};
    private static final int[] NO_BY = {LOW, LOW + 1, -90001, -1002, -1001, 1001, 1002, 90000, HIGH - 1, HIGH};
    private static final int[] ANY = {};

    /** A call that is answered once all is made, and the wrong numbers of each argument. */
    private record Answered(Call call, int[]... wrong) {
    }

    private static Answered answered(String name, int[] args, int[]... wrong) {
        return new Answered(new Call(name, args), wrong);
    }

    /** Those that answer TURN unless the latest make() holds still. */
    private static final List<Answered> HELD = List.of(
        answered("label", a(1, 2, 0, 1), NO_SIDE, NO_NODE, NO_K, NO_WHAT_OF_TWO),
        answered("ask", a(0, 2), NO_NODE, NO_NODE),
        answered("meeting", a(0, 2), NO_NODE, NO_NODE),
        answered("redone", a()),
        answered("damage", a(1, 2, 0, 1), NO_SIDE, NO_NODE, NO_STATION, NO_BY),
        answered("check", a()),
        answered("shortcut", a(0, 1), NO_SHORTCUT, NO_WHAT_OF_FOUR),
        answered("climb", a(0, 2), NO_NODE, NO_NODE),
        answered("way", a(0, 2, 0), NO_NODE, NO_NODE, NO_K),
        answered("least", a(0, 2), NO_NODE, NO_NODE),
        answered("most", a(0, 2), NO_NODE, NO_NODE));

    /** Those that are answered whether or not it holds. */
    private static final List<Answered> FREE = List.of(
        answered("arc", a(0, 1, 7), NO_NODE, NO_NODE, NO_LENGTH),
        answered("lose", a(0, 1), NO_NODE, NO_NODE),
        answered("rank", a(1, 2), NO_NODE, NO_NODE),
        answered("ranked", a(1), NO_NODE),
        answered("landmark", a(1, 1), NO_NODE, ANY),
        answered("landmark", a(1, 0), NO_NODE, ANY),
        answered("count", a(0), NO_WHAT_OF_FOUR));

    public static void main(String[] args) {
        turnBeforeTheFirstMake();
        turnBehindEachChange();
        noTurnBehindWhatIsNoChange();
        freeCallsKnowNoTurn();
        oneWrongArgument();
        twoWrongArguments();
        twoNodesThatAreOne();
        whatOnlyTellsChangesNothing();
        all512Calls();
        end();
    }

    /** Four nodes, two shortcuts by the last one, a landmark, a damaged distance. */
    private static Watched before() {
        Watched x = net(NODES, a(0, 1, 2), a(1, 3, 3), a(3, 0, 4), a(3, 2, 1), a(2, 1, 900));
        x.landmark(2, true);
        return x;
    }

    private static Watched behind() {
        Watched x = before();
        x.make();
        x.damage(1, 1, 0, 3);
        return x;
    }

    /** All that calls can tell of the object, and of its net, which is taken to pieces at the end. */
    private static List<Integer> picture(Watched x) {
        List<Integer> all = new ArrayList<>();
        for (int what = 0; what < 4; what++) {
            all.add(x.count(what));
        }
        for (int k = 0; k <= x.count(0) && k < 16; k++) {
            all.add(x.ranked(k));
        }
        told(x, all);
        for (int v = 0; v < NODES; v++) {
            all.add(x.landmark(v, false));
        }
        all.add(x.make());
        all.add(x.redone());
        all.add(x.check());
        for (int pair = 0; pair < NODES * NODES; pair++) {
            all.add(x.lose(pair / NODES, pair % NODES));
        }
        return all;
    }

    private static void told(Watched x, List<Integer> all) {
        all.add(x.redone());
        all.add(x.check());
        for (int v = 0; v < 2 * NODES; v++) {
            for (int k = -1; k < Math.max(0, x.label(v % 2, v / 2, -1, 0)); k++) {
                all.add(x.label(v % 2, v / 2, k, 0));
                all.add(x.label(v % 2, v / 2, k, 1));
            }
        }
        for (int k = 0; k < 4 * Math.max(0, x.shortcut(-1, 0)); k++) {
            all.add(x.shortcut(k / 4, k % 4));
        }
        for (int pair = 0; pair < NODES * NODES; pair++) {
            int from = pair / NODES;
            int to = pair % NODES;
            all.add(x.ask(from, to));
            all.add(x.meeting(from, to));
            all.add(x.climb(from, to));
            all.add(x.way(from, to, -1));
            all.add(x.way(from, to, 1));
            all.add(x.least(from, to));
            all.add(x.most(from, to));
        }
    }

    private static final List<Integer> PICTURE_BEFORE = picture(before());
    private static final List<Integer> PICTURE_BEHIND = picture(behind());

    private static void same(String call, Watched x, List<Integer> picture) {
        due(call + ": is all as it was", picture(x).equals(picture) ? 1 : 0, 1);
    }

    // ---- 'and TURN before it, and behind each node(), arc(), rank() that was done, and each lose() of an ARC'

    private static void turnBeforeTheFirstMake() {
        for (Answered one : HELD) {
            due(one.call + " of a new object", one.call.on(new Watched()), TURN);
            due(one.call + " before the first make()", one.call.on(before()), TURN);
            Watched x = before();
            one.call.on(x);
            same(one.call + " before the first make()", x, PICTURE_BEFORE);
        }
    }

    private static final List<Call> CHANGES = List.of(
        new Call("node"),
        new Call("arc", 1, 0, 5),
        new Call("arc", 0, 1, 1),
        new Call("arc", 0, 1, 1000),
        new Call("arc", 0, 1, 2),
        new Call("lose", 0, 1),
        new Call("lose", 2, 1),
        new Call("rank", 0, NODES - 1),
        new Call("rank", NODES - 1, 0),
        new Call("rank", 1, 2),
        new Call("rank", 1, 1));

    private static void turnBehindEachChange() {
        for (Call change : CHANGES) {
            for (Answered one : HELD) {
                Watched x = behind();
                boolean wasHeld = one.call.on(x) != TURN;
                due(one.call + " holds before " + change, wasHeld ? 1 : 0, 1);
                due(change + " is done", change.on(x) >= NONE ? 1 : 0, 1);
                due("count(3) behind " + change, x.count(3), 0);
                due(one.call + " behind " + change, one.call.on(x), TURN);
                change.on(x);
                due(one.call + " behind " + change + " twice", one.call.on(x), TURN);
                x.make();
                due("count(3) behind make()", x.count(3), 1);
                due(one.call + " is answered again", one.call.on(x) == TURN ? 1 : 0, 0);
            }
        }
    }

    private static final List<Call> NO_CHANGES = List.of(
        new Call("arc", 0, 1, 0),
        new Call("arc", 0, 1, 1001),
        new Call("arc", 0, 0, 5),
        new Call("arc", 0, NODES, 5),
        new Call("lose", 1, 0),
        new Call("lose", 1, 1),
        new Call("lose", NODES, 0),
        new Call("rank", 0, NODES),
        new Call("rank", 0, -1),
        new Call("rank", NODES, 0),
        new Call("ranked", 0),
        new Call("ranked", NODES),
        new Call("landmark", 0, 1),
        new Call("landmark", 2, 0),
        new Call("landmark", 2, 1),
        new Call("landmark", NODES, 1),
        new Call("damage", 0, 0, 0, 1),
        new Call("damage", 0, 0, 0, 1001),
        new Call("make"));

    private static void noTurnBehindWhatIsNoChange() {
        for (Call call : NO_CHANGES) {
            for (Answered one : HELD) {
                Watched x = behind();
                call.on(x);
                due("count(3) behind " + call, x.count(3), 1);
                due(one.call + " is answered behind " + call, one.call.on(x) == TURN ? 1 : 0, 0);
            }
        }
        for (Answered one : HELD) {
            Watched x = made(16, a(0, 3, 1), a(3, 1, 1));
            due("the 17th node()", x.node(), FULL);
            due("count(3) behind FULL", x.count(3), 1);
            due(one.call + " is answered behind FULL", one.call.on(x) == TURN ? 1 : 0, 0);
        }
    }

    /** The net's calls and count() are not of 2 and 3: none of them waits for a make(). */
    private static void freeCallsKnowNoTurn() {
        for (Answered one : FREE) {
            due(one.call + " before the first make()", one.call.on(before()), one.call.on(behind()));
        }
        Watched x = before();
        due("landmark(2, true) before the first make()", x.landmark(2, true), 1);
        due("ranked(3) before the first make()", x.ranked(3), 3);
        due("count(0) before the first make()", x.count(0), 4);
        due("count(1) before the first make()", x.count(1), 5);
        due("count(2) before the first make()", x.count(2), 1);
        due("count(3) before the first make()", x.count(3), 0);
        due("node() before the first make()", x.node(), 4);
    }

    // ---- 'TURN, then BAD'

    private static void refused(Call call, boolean isHeld) {
        Watched x = behind();
        due(call.toString(), call.on(x), BAD);
        same(call.toString(), x, PICTURE_BEHIND);
        Watched y = before();
        due(call + " before the first make()", call.on(y), isHeld ? TURN : BAD);
        same(call + " before the first make()", y, PICTURE_BEFORE);
        Watched z = new Watched();
        due(call + " without nodes, before make()", call.on(z), isHeld ? TURN : BAD);
        z.make();
        due(call + " without nodes", call.on(z), BAD);
    }

    private static void oneWrongArgument() {
        for (Answered one : all()) {
            for (int i = 0; i < one.wrong.length; i++) {
                for (int number : one.wrong[i]) {
                    refused(one.call.with(i, number), HELD.contains(one));
                }
            }
        }
    }

    private static void twoWrongArguments() {
        for (Answered one : all()) {
            for (int i = 0; i < one.wrong.length; i++) {
                for (int j = i + 1; j < one.wrong.length; j++) {
                    for (int number : one.wrong[i]) {
                        for (int other : one.wrong[j]) {
                            Call call = one.call.with(i, number).with(j, other);
                            due(call.toString(), call.on(behind()), BAD);
                            due(call + " before make()", call.on(before()), HELD.contains(one) ? TURN : BAD);
                        }
                    }
                }
            }
        }
    }

    private static List<Answered> all() {
        List<Answered> all = new ArrayList<>(HELD);
        all.addAll(FREE);
        return all;
    }

    /** 'no two NODES' refuses one NODE told twice; 'no NODES' does not. */
    private static void twoNodesThatAreOne() {
        for (int v = 0; v < NODES; v++) {
            for (int length : a(1, 1000, 0, 1001)) {
                refused(new Call("arc", v, v, length), false);
            }
            refused(new Call("lose", v, v), false);
            Watched x = made(NODES, a(0, 1, 2), a(1, 0, 2));
            x.landmark(v, true);
            due("ask of one node", x.ask(v, v), 0);
            due("meeting of one node", x.meeting(v, v), v);
            due("climb of one node", x.climb(v, v), 0);
            due("way of one node", x.way(v, v, -1), 1);
            due("way of one node", x.way(v, v, 0), v);
            due("least of one node", x.least(v, v), 0);
            due("most of one node", x.most(v, v), 0);
        }
    }

    private static void whatOnlyTellsChangesNothing() {
        for (Answered one : HELD) {
            if (!one.call.name().equals("damage")) {
                Watched x = behind();
                one.call.on(x);
                same(one.call.toString(), x, PICTURE_BEHIND);
            }
        }
        List<Call> calls = List.of(
            new Call("lose", 1, 0), new Call("ranked", 0), new Call("landmark", 2, 1), new Call("landmark", 1, 0),
            new Call("count", 0), new Call("count", 1), new Call("count", 2), new Call("count", 3),
            new Call("damage", 1, 1, 0, 0), new Call("damage", 0, 0, 0, -1), new Call("label", 0, 0, -1, 0),
            new Call("shortcut", -1, 0), new Call("way", 0, 2, -1), new Call("way", 0, 2, 9));
        for (Call call : calls) {
            Watched x = behind();
            call.on(x);
            same(call.toString(), x, PICTURE_BEHIND);
        }
    }

    // ---- 'An object is used for at most 512 calls after it has been made'

    private static void all512Calls() {
        Watched x = net(16, a(0, 15, 1));
        int length = 1;
        while (x.callsLeft() > 3) {
            due("512 calls: arc()", x.arc(0, 15, length + 1), length);
            length++;
        }
        due("512 calls: the 510th", x.make(), 33);
        due("512 calls: the 511th", x.redone(), 33);
        due("512 calls: the last", x.ask(0, 15), length);
        Watched y = net(2, a(0, 1, 5));
        int made = 0;
        while (y.callsLeft() > 3) {
            due("512 calls: make()", y.make(), 5);
            due("512 calls: redone()", y.redone(), made == 0 ? 5 : 0);
            due("512 calls: damage()", y.damage(1, 1, 0, 1), 6);
            made++;
        }
        due("512 calls: ask()", y.ask(0, 1), 6);
    }
}
