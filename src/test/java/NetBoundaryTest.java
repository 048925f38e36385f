/** The net: each sentence of the promises 1 to 8 and 20, and of their terms, that names a boundary case. */
public final class NetBoundaryTest extends Due {
    public static void main(String[] args) {
        noNodes();
        noNodesMade();
        objectsShareNothing();
        sixteenNodes();
        aNewNodeComesLast();
        aNewNodeHasNothing();
        lengths();
        oneArcOrNone();
        noArcFromANodeToItself();
        allArcs();
        loseWhatIsThere();
        loseWhatIsNotThere();
        firstAndLastRank();
        theOneRankOfOneNode();
        thoseBetweenMove();
        noSuchRank();
        fourLandmarks();
        aFifthLandmark();
        landmarksAreNoChange();
        makeTells();
        countTells();
        countHolds();
        end();
    }

    private static void row(String behind, Watched x, int... nodes) {
        for (int k = 0; k < nodes.length; k++) {
            due("ranked(" + k + ") behind " + behind, x.ranked(k), nodes[k]);
        }
        due("ranked(" + nodes.length + ") behind " + behind, x.ranked(nodes.length), BAD);
        due("ranked(-1) behind " + behind, x.ranked(-1), BAD);
    }

    private static void counts(String behind, Watched x, int nodes, int arcs, int landmarks, int holds) {
        due("count(0) behind " + behind, x.count(0), nodes);
        due("count(1) behind " + behind, x.count(1), arcs);
        due("count(2) behind " + behind, x.count(2), landmarks);
        due("count(3) behind " + behind, x.count(3), holds);
    }

    // ---- 1 'No NODES.'

    private static void noNodes() {
        Watched x = new Watched();
        counts("a new object", x, 0, 0, 0, 0);
        row("a new object", x);
        due("1 arc(0, 0, 1)", x.arc(0, 0, 1), BAD);
        due("1 arc(0, 1, 1)", x.arc(0, 1, 1), BAD);
        due("1 lose(0, 0)", x.lose(0, 0), BAD);
        due("1 lose(0, 1)", x.lose(0, 1), BAD);
        due("1 rank(0, 0)", x.rank(0, 0), BAD);
        due("1 landmark(0, true)", x.landmark(0, true), BAD);
        due("1 landmark(0, false)", x.landmark(0, false), BAD);
        counts("refused calls", x, 0, 0, 0, 0);
        due("1 node()", x.node(), 0);
    }

    private static void noNodesMade() {
        Watched x = new Watched();
        due("1 make()", x.make(), 0);
        counts("make() without nodes", x, 0, 0, 0, 1);
        due("1 label(0, 0, -1, 0)", x.label(0, 0, -1, 0), BAD);
        due("1 label(1, 0, 0, 0)", x.label(1, 0, 0, 0), BAD);
        due("1 ask(0, 0)", x.ask(0, 0), BAD);
        due("1 meeting(0, 0)", x.meeting(0, 0), BAD);
        due("1 redone()", x.redone(), 0);
        due("1 damage(0, 0, 0, 0)", x.damage(0, 0, 0, 0), BAD);
        due("1 check()", x.check(), NONE);
        due("1 shortcut(-1, 0)", x.shortcut(-1, 0), 0);
        due("1 shortcut(0, 0)", x.shortcut(0, 0), BAD);
        due("1 climb(0, 0)", x.climb(0, 0), BAD);
        due("1 way(0, 0, -1)", x.way(0, 0, -1), BAD);
        due("1 way(0, 0, 0)", x.way(0, 0, 0), BAD);
        due("1 least(0, 0)", x.least(0, 0), BAD);
        due("1 most(0, 0)", x.most(0, 0), BAD);
        due("1 make() again", x.make(), 0);
        due("1 redone() again", x.redone(), 0);
    }

    private static void objectsShareNothing() {
        Watched x = new Watched();
        Watched y = chain();
        y.landmark(0, true);
        y.make();
        counts("another object's calls", x, 0, 0, 0, 0);
        due("1 node() behind another object's", x.node(), 0);
        due("1 make() behind another object's", x.make(), 2);
        due("1 redone() behind another object's", x.redone(), 2);
        counts("another object's make()", y, 4, 4, 1, 1);
    }

    // ---- 2 'A NODE more: its number. FULL: 16.'

    private static void sixteenNodes() {
        Watched x = new Watched();
        for (int v = 0; v < 16; v++) {
            due("2 node()", x.node(), v);
            due("2 count(0)", x.count(0), v + 1);
            due("2 ranked(" + v + ")", x.ranked(v), v);
            due("2 ranked(" + (v + 1) + ")", x.ranked(v + 1), BAD);
        }
        due("2 the 17th", x.node(), FULL);
        due("2 the 17th again", x.node(), FULL);
        due("2 count(0) behind FULL", x.count(0), 16);
        due("2 ranked(15) behind FULL", x.ranked(15), 15);
        due("2 the last of sixteen has arcs", x.arc(15, 14, 1000), NONE);
        due("2 the last of sixteen has arcs", x.arc(0, 15, 1), NONE);
        due("2 arc(16, 0, 1)", x.arc(16, 0, 1), BAD);
        due("2 arc(0, 16, 1)", x.arc(0, 16, 1), BAD);
        due("2 the last of sixteen is a landmark", x.landmark(15, true), 0);
        due("2 landmark(16, true)", x.landmark(16, true), BAD);
        due("2 rank(15, 0)", x.rank(15, 0), 15);
        due("2 rank(16, 0)", x.rank(16, 0), BAD);
        due("2 rank(0, 16)", x.rank(0, 16), BAD);
        // Two of each node, 15 of OUT of 0 and of IN of 14; 15 itself lies on the way from 0 to 14.
        due("2 make()", x.make(), 34);
        due("2 ask(0, 14)", x.ask(0, 14), 1001);
        due("2 ask(15, 16)", x.ask(15, 16), BAD);
        due("2 FULL behind make()", x.node(), FULL);
        due("2 count(3) behind FULL", x.count(3), 1);
    }

    /** 'in the order of their numbers at first; a new one comes last' */
    private static void aNewNodeComesLast() {
        Watched x = net(3);
        row("three nodes", x, 0, 1, 2);
        x.rank(0, 2);
        row("rank(0, 2)", x, 1, 2, 0);
        due("2 node()", x.node(), 3);
        row("node()", x, 1, 2, 0, 3);
        due("5 the new one's rank", x.rank(3, 0), 3);
        due("2 node()", x.node(), 4);
        row("node()", x, 3, 1, 2, 0, 4);
    }

    private static void aNewNodeHasNothing() {
        Watched x = chain();
        for (int v = 0; v < 4; v++) {
            x.landmark(v, true);
        }
        x.make();
        x.node();
        counts("node()", x, 5, 4, 4, 0);
        due("7 a new one is no landmark", x.landmark(4, true), FULL);
        x.make();
        due("2 redone() of a new one", x.redone(), 2);
        for (int v = 0; v < 4; v++) {
            due("2 no way to a new one", x.ask(v, 4), NONE);
            due("2 no way from a new one", x.ask(4, v), NONE);
            due("4 no arc to a new one", x.lose(v, 4), NONE);
            due("4 no arc from a new one", x.lose(4, v), NONE);
        }
    }

    // ---- 3 'with a LENGTH, 1 .. 1,000'

    private static void lengths() {
        Watched x = net(2);
        for (int length : a(0, 1001, -1, -1000, LOW, HIGH)) {
            due("3 arc(0, 1, " + length + ") of none", x.arc(0, 1, length), BAD);
        }
        due("3 there is none still", x.lose(0, 1), NONE);
        due("3 count(1)", x.count(1), 0);
        due("3 arc(0, 1, 1)", x.arc(0, 1, 1), NONE);
        due("3 arc(0, 1, 1000)", x.arc(0, 1, 1000), 1);
        for (int length : a(0, 1001, -1, -1000, LOW, HIGH)) {
            due("3 arc(0, 1, " + length + ")", x.arc(0, 1, length), BAD);
        }
        due("3 a refused length is not laid", x.arc(0, 1, 999), 1000);
        due("3 arc(0, 1, 2)", x.arc(0, 1, 2), 999);
        due("4 lose(0, 1)", x.lose(0, 1), 2);
        x.arc(0, 1, 1);
        x.make();
        due("3 ask() of 1", x.ask(0, 1), 1);
        x.arc(0, 1, 1000);
        x.make();
        due("3 ask() of 1,000", x.ask(0, 1), 1000);
    }

    /** 'there is one ARC, or none': another LENGTH comes in its place, be it less or more. */
    private static void oneArcOrNone() {
        Watched x = net(2);
        due("3 the first", x.arc(0, 1, 5), NONE);
        due("3 less", x.arc(0, 1, 3), 5);
        due("3 more", x.arc(0, 1, 8), 3);
        due("3 the same", x.arc(0, 1, 8), 8);
        due("3 count(1)", x.count(1), 1);
        x.make();
        due("3 the latest one alone", x.ask(0, 1), 8);
        due("3 none back", x.ask(1, 0), NONE);
        due("3 the other direction is another one", x.arc(1, 0, 4), NONE);
        due("3 count(1)", x.count(1), 2);
        x.make();
        due("3 there", x.ask(0, 1), 8);
        due("3 back", x.ask(1, 0), 4);
        due("4 there", x.lose(0, 1), 8);
        due("4 back", x.lose(1, 0), 4);
        due("3 none behind lose()", x.arc(0, 1, 6), NONE);
    }

    /** 'BAD: no two NODES' */
    private static void noArcFromANodeToItself() {
        Watched x = net(16);
        for (int v = 0; v < 16; v++) {
            due("3 arc(" + v + ", " + v + ", 1)", x.arc(v, v, 1), BAD);
            due("4 lose(" + v + ", " + v + ")", x.lose(v, v), BAD);
        }
        due("3 count(1)", x.count(1), 0);
        x.make();
        due("3 ask(7, 7)", x.ask(7, 7), 0);
    }

    private static void allArcs() {
        Watched x = net(16);
        int arcs = 0;
        for (int pair = 0; pair < 256; pair++) {
            if (pair / 16 != pair % 16) {
                due("3 each arc", x.arc(pair / 16, pair % 16, 1000), NONE);
                arcs++;
            }
        }
        due("3 count(1) of all", x.count(1), arcs);
        // Each two nodes have each other's direct arc alone: one station for each pair, and two of each node itself.
        due("8 make() of all", x.make(), 240 + 32);
        due("15 no shortcut among all", x.shortcut(-1, 0), 0);
        due("14 check() of all", x.check(), NONE);
        due("4 the last arc", x.lose(15, 14), 1000);
        due("1 count(1) behind it", x.count(1), 239);
        x.make();
        due("10 around", x.ask(15, 14), 2000);
        due("17 around by the least number", x.way(15, 14, 1), 0);
    }

    // ---- 4 'The ARC from a to b goes: its LENGTH. BAD: no two NODES. NONE: there is none.'

    private static void loseWhatIsThere() {
        Watched x = net(3, a(0, 1, 1), a(1, 2, 1000), a(2, 0, 7));
        x.make();
        due("4 the least length", x.lose(0, 1), 1);
        due("4 count(1)", x.count(1), 2);
        due("4 count(3)", x.count(3), 0);
        due("4 the greatest length", x.lose(1, 2), 1000);
        due("4 the last one", x.lose(2, 0), 7);
        due("4 count(1) of none", x.count(1), 0);
        due("4 make()", x.make(), 6);
        due("4 no way any more", x.ask(2, 0), NONE);
    }

    private static void loseWhatIsNotThere() {
        Watched x = net(3, a(0, 1, 5));
        x.make();
        due("4 the other direction", x.lose(1, 0), NONE);
        due("4 another node", x.lose(0, 2), NONE);
        due("4 no arc, but a way of none", x.lose(2, 1), NONE);
        due("4 count(1)", x.count(1), 1);
        due("4 count(3)", x.count(3), 1);
        due("4 ask(0, 1)", x.ask(0, 1), 5);
        due("4 once", x.lose(0, 1), 5);
        due("4 twice", x.lose(0, 1), NONE);
        due("4 count(1) behind twice", x.count(1), 0);
        // A way of two arcs, and a shortcut, are no arc.
        Watched y = made(3, a(0, 2, 1), a(2, 1, 1));
        due("15 a shortcut from 0 to 1", y.shortcut(-1, 0), 1);
        due("4 a shortcut is no arc", y.lose(0, 1), NONE);
        due("20 a shortcut is no arc", y.count(1), 2);
    }

    // ---- 5 'A NODE gets a RANK; those between move by one: the RANK that it had.'

    private static void firstAndLastRank() {
        Watched x = net(16);
        due("5 rank(0, 15)", x.rank(0, 15), 0);
        row("rank(0, 15)", x, 1, 2, 3, 4, 5, 6, 7, 8, 9, 10, 11, 12, 13, 14, 15, 0);
        due("5 rank(15, 0)", x.rank(15, 0), 14);
        row("rank(15, 0)", x, 15, 1, 2, 3, 4, 5, 6, 7, 8, 9, 10, 11, 12, 13, 14, 0);
        due("5 the first stays first", x.rank(15, 0), 0);
        due("5 the last stays last", x.rank(0, 15), 15);
        row("ranks that they had", x, 15, 1, 2, 3, 4, 5, 6, 7, 8, 9, 10, 11, 12, 13, 14, 0);
        due("5 rank(0, 0)", x.rank(0, 0), 15);
        due("5 rank(15, 15)", x.rank(15, 15), 1);
        row("all back", x, 0, 1, 2, 3, 4, 5, 6, 7, 8, 9, 10, 11, 12, 13, 14, 15);
    }

    private static void theOneRankOfOneNode() {
        Watched x = net(1);
        due("5 rank(0, 0)", x.rank(0, 0), 0);
        due("5 rank(0, 1)", x.rank(0, 1), BAD);
        due("5 rank(0, -1)", x.rank(0, -1), BAD);
        due("5 rank(1, 0)", x.rank(1, 0), BAD);
        row("rank(0, 0)", x, 0);
    }

    private static void thoseBetweenMove() {
        Watched x = net(6);
        due("5 up by one", x.rank(2, 3), 2);
        row("rank(2, 3)", x, 0, 1, 3, 2, 4, 5);
        due("5 down by one", x.rank(4, 3), 4);
        row("rank(4, 3)", x, 0, 1, 3, 4, 2, 5);
        due("5 up by three", x.rank(1, 4), 1);
        row("rank(1, 4)", x, 0, 3, 4, 2, 1, 5);
        due("5 down by three", x.rank(1, 1), 4);
        row("rank(1, 1)", x, 0, 1, 3, 4, 2, 5);
        due("5 nowhere", x.rank(4, 3), 3);
        row("rank(4, 3) again", x, 0, 1, 3, 4, 2, 5);
    }

    private static void noSuchRank() {
        Watched x = net(3);
        order(x, 2, 0, 1);
        x.make();
        for (int k : a(3, 4, 15, 16, -1, -2, LOW, HIGH)) {
            due("5 rank(0, " + k + ")", x.rank(0, k), BAD);
            due("5 rank(" + k + ", 0)", x.rank(k, 0), BAD);
            due("6 ranked(" + k + ")", x.ranked(k), BAD);
        }
        row("refused ranks", x, 2, 0, 1);
        due("5 count(3) behind BAD", x.count(3), 1);
        due("5 rank(0, 2) still moves", x.rank(0, 2), 1);
    }

    // ---- 7 'A NODE is a LANDMARK, or not: 1 it was, 0. BAD: none such. FULL: four others are.'

    private static void fourLandmarks() {
        Watched x = net(16);
        int[] four = a(0, 15, 7, 8);
        for (int i = 0; i < 4; i++) {
            due("7 off already", x.landmark(four[i], false), 0);
            due("7 count(2)", x.count(2), i);
            due("7 on", x.landmark(four[i], true), 0);
            due("7 count(2)", x.count(2), i + 1);
            due("7 on already", x.landmark(four[i], true), 1);
            due("7 count(2)", x.count(2), i + 1);
        }
        for (int i = 0; i < 4; i++) {
            due("7 one of four is on already, three others are", x.landmark(four[i], true), 1);
        }
        for (int i = 0; i < 4; i++) {
            due("7 off", x.landmark(four[i], false), 1);
            due("7 count(2)", x.count(2), 3 - i);
            due("7 off already", x.landmark(four[i], false), 0);
            due("7 count(2)", x.count(2), 3 - i);
        }
    }

    private static void aFifthLandmark() {
        Watched x = net(6);
        for (int v = 0; v < 4; v++) {
            x.landmark(v, true);
        }
        due("7 the fifth", x.landmark(4, true), FULL);
        due("7 the fifth again", x.landmark(4, true), FULL);
        due("7 another fifth", x.landmark(5, true), FULL);
        due("7 count(2)", x.count(2), 4);
        due("7 a fifth that is no node", x.landmark(6, true), BAD);
        due("7 a fifth that is no node", x.landmark(-1, true), BAD);
        due("7 a fifth that is no node", x.landmark(HIGH, true), BAD);
        due("7 a fifth that is no node", x.landmark(LOW, false), BAD);
        due("7 the refused one is none", x.landmark(4, false), 0);
        due("7 count(2)", x.count(2), 4);
        due("7 one goes", x.landmark(2, false), 1);
        due("7 the refused one still is none", x.landmark(4, false), 0);
        due("7 another comes", x.landmark(4, true), 0);
        due("7 the one that went is the fifth now", x.landmark(2, true), FULL);
        due("7 count(2)", x.count(2), 4);
    }

    /** '(That is no change of the net.)': and they tell at once, without another make(). */
    private static void landmarksAreNoChange() {
        Watched x = chain();
        x.make();
        x.damage(1, 3, 1, 5);
        due("7 on", x.landmark(1, true), 0);
        due("7 count(3) behind on", x.count(3), 1);
        due("7 damage behind on", x.label(1, 3, 1, 1), 12);
        due("7 redone() behind on", x.redone(), 14);
        due("7 most() behind on", x.most(0, 2), 5);
        due("7 off", x.landmark(1, false), 1);
        due("7 count(3) behind off", x.count(3), 1);
        due("7 damage behind off", x.ask(1, 3), 12);
        due("7 most() behind off", x.most(0, 2), NONE);
        x.arc(3, 0, 1);
        due("7 a landmark makes nothing hold", x.landmark(2, true), 0);
        due("7 count(3) behind a change", x.count(3), 0);
        due("7 most() behind a change", x.most(0, 2), TURN);
        x.make();
        due("7 a landmark stays one", x.landmark(2, true), 1);
        due("7 most() behind make()", x.most(0, 3), 9);
        due("7 redone() knows no landmarks", x.make() > 0 ? x.redone() : NONE, 0);
    }

    // ---- 8 'All is laid: how many STATIONS all LABELS have together.'

    private static void makeTells() {
        for (int nodes = 0; nodes <= 16; nodes++) {
            due("8 make() of " + nodes + " nodes without arcs", net(nodes).make(), 2 * nodes);
        }
        due("8 one arc", net(2, a(0, 1, 1000)).make(), 5);
        // IN of v has v + 1, OUT itself alone.
        due("8 the longest chain", longest().make(), 16 * 17 / 2 + 16);
        Watched x = chain();
        due("8 chain", x.make(), 14);
        due("8 again", x.make(), 14);
        x.damage(1, 3, 0, 1000);
        due("8 damage takes no station", x.make(), 14);
    }

    // ---- 20 '0 NODES, 1 ARCS, 2 LANDMARKS, 3 whether the latest make() holds still (1, 0). BAD: another number.'

    private static void countTells() {
        Watched x = new Watched();
        for (int what : a(-1, 4, -2, 5, 16, LOW, LOW + 1, HIGH - 1, HIGH)) {
            due("20 count(" + what + ")", x.count(what), BAD);
        }
        x.node();
        x.node();
        x.node();
        x.arc(2, 0, 1);
        x.arc(0, 2, 1);
        x.landmark(1, true);
        counts("the first calls", x, 3, 2, 1, 0);
        x.make();
        counts("make()", x, 3, 2, 1, 1);
        for (int what : a(-1, 4, LOW, HIGH)) {
            due("20 count(" + what + ") behind make()", x.count(what), BAD);
        }
        counts("BAD", x, 3, 2, 1, 1);
    }

    private static void countHolds() {
        Watched x = net(2);
        due("20 before the first make()", x.count(3), 0);
        x.make();
        due("20 behind make()", x.count(3), 1);
        due("20 asked again", x.count(3), 1);
        x.arc(0, 1, 1);
        due("20 behind arc()", x.count(3), 0);
        x.lose(0, 1);
        due("20 behind a change back", x.count(3), 0);
        x.make();
        due("20 behind another make()", x.count(3), 1);
        x.rank(0, 1);
        due("20 behind rank()", x.count(3), 0);
        x.make();
        x.node();
        due("20 behind node()", x.count(3), 0);
        x.make();
        x.make();
        due("20 behind two make()s", x.count(3), 1);
    }
}
