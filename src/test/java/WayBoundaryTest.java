/** Contraction, ways, landmarks: each sentence of the promises 15 to 19, and of their terms, that names a boundary case. */
public final class WayBoundaryTest extends Due {
    public static void main(String[] args) {
        noShortcuts();
        howManyShortcuts();
        noSuchShortcut();
        longerThanBothTogether();
        eachWayAround();
        thoseThatAreThereStill();
        notOne();
        theGreatestRankFirst();
        byNumbers();
        asItWasBeforeItWent();
        inPlaceOfAnArc();
        inPlaceOfAShortcut();
        shortcutsBySixteen();
        climbOfOneNode();
        climbWithoutAWay();
        climbDownAndUp();
        climbByShortcuts();
        howManyNodesOfAWay();
        noSuchNodeOfAWay();
        wayOfOneNode();
        noWay();
        theLeastNumberEachTime();
        theLongestWay();
        leastWithoutLandmarks();
        sureThatThereIsNoWay();
        notSure();
        atLeastNothing();
        atLeastOfWhatIsThere();
        atLeastTheGreatest();
        mostWithoutLandmarks();
        noLandmarkHasBoth();
        atMostTheLeast();
        landmarksAtTheEnds();
        noNodesToBound();
        end();
    }

    private static void shortcuts(String of, Watched x, int[]... all) {
        due(of + ": shortcut(-1, 0)", x.shortcut(-1, 0), all.length);
        for (int k = 0; k < all.length; k++) {
            for (int what = 0; what < 4; what++) {
                due(of + ": shortcut(" + k + ", " + what + ")", x.shortcut(k, what), all[k][what]);
            }
        }
        for (int what = 0; what < 4; what++) {
            due(of + ": shortcut(" + all.length + ", " + what + ")", x.shortcut(all.length, what), BAD);
        }
    }

    // ---- 15 'k = - 1 (whatever what): how many. BAD: none such.'

    private static void noShortcuts() {
        shortcuts("no nodes", made(0));
        shortcuts("one node", made(1));
        shortcuts("two nodes", made(2, a(0, 1, 1), a(1, 0, 1)));
        shortcuts("no arcs", made(16));
        Watched x = made(3, a(0, 2, 1), a(2, 1, 1));
        x.lose(2, 1);
        x.make();
        shortcuts("those of the make() before are gone", x);
    }

    private static void howManyShortcuts() {
        Watched x = made(3, a(0, 2, 1), a(2, 1, 1));
        Watched none = made(3);
        for (int what : a(0, 1, 2, 3, 4, -1, -2, 16, LOW, HIGH)) {
            due("15 how many, what " + what, x.shortcut(-1, what), 1);
            due("15 how many of none, what " + what, none.shortcut(-1, what), 0);
        }
    }

    private static void noSuchShortcut() {
        Watched x = made(3, a(0, 2, 1), a(2, 1, 1));
        for (int what : a(4, 5, 16, -1, -2, LOW, LOW + 1, HIGH - 1, HIGH)) {
            due("15 shortcut(0, " + what + ")", x.shortcut(0, what), BAD);
        }
        for (int k : a(1, 2, 15, 16, 1119, 1120, -2, -3, LOW, LOW + 1, HIGH - 1, HIGH)) {
            for (int what = -1; what < 5; what++) {
                due("15 shortcut(" + k + ", " + what + ")", x.shortcut(k, what), BAD);
            }
        }
        // A list that was longer: what it had is none of the new one.
        Watched y = made(3, a(0, 2, 1), a(1, 2, 1), a(2, 0, 1), a(2, 1, 1));
        shortcuts("two", y, a(0, 1, 2, 2), a(1, 0, 2, 2));
        y.lose(2, 0);
        y.make();
        shortcuts("one of two", y, a(0, 1, 2, 2));
    }

    // ---- 3 'if each way from u to w among the NODES that are there then, but v, along ARCS and SHORTCUTS between
    // ---- them is longer than both together, or there is none: a SHORTCUT from u to w comes with that LENGTH, by v'

    private static void longerThanBothTogether() {
        Watched x = net(3, a(0, 2, 400), a(2, 1, 600), a(0, 1, 999));
        x.make();
        shortcuts("a way less by one", x);
        x.arc(0, 1, 1000);
        x.make();
        shortcuts("a way as long", x);
        x.arc(0, 2, 399);
        x.make();
        shortcuts("a way longer by one", x, a(0, 1, 999, 2));
        x.lose(0, 1);
        x.arc(0, 2, 1000);
        x.arc(2, 1, 1000);
        x.make();
        shortcuts("no way", x, a(0, 1, 2000, 2));
        x.arc(1, 0, 1);
        x.make();
        shortcuts("a way back is none", x, a(0, 1, 2000, 2));
    }

    /** The way around may have many arcs, and shortcuts; v lies on none. */
    private static void eachWayAround() {
        Watched x = net(5, a(0, 4, 3), a(4, 3, 3), a(0, 1, 2), a(1, 2, 2), a(2, 3, 2));
        x.make();
        // 4 goes first, so 1 and 2 are there as it goes.
        shortcuts("three arcs, as long", x);
        x.arc(1, 2, 3);
        x.make();
        shortcuts("three arcs, longer by one", x, a(0, 3, 6, 4));
        // The arc is longer, but each way has to be.
        Watched y = net(4, a(0, 3, 2), a(3, 1, 2), a(0, 1, 9), a(0, 2, 2), a(2, 1, 2));
        y.make();
        // As 3 goes the way by 2 is as long; as 2 goes nothing is left but the arc of 9.
        shortcuts("an arc that is too long, another way that is not", y, a(0, 1, 4, 2));
        // Those that are there have the greatest numbers here: 4, 3 and 2, as 0 goes.
        Watched z = net(5, a(2, 0, 5), a(0, 4, 5), a(2, 3, 5), a(3, 4, 5));
        order(z, 4, 3, 2, 0, 1);
        z.make();
        shortcuts("two arcs, as long, by great numbers", z);
        z.arc(3, 4, 6);
        z.make();
        shortcuts("two arcs, longer by one, by great numbers", z, a(2, 4, 10, 0));
    }

    private static void thoseThatAreThereStill() {
        // 3 goes first; then 2: the way by 3 is none any more.
        Watched x = net(4, a(0, 3, 1), a(3, 1, 1), a(0, 2, 5), a(2, 1, 5));
        x.make();
        // 3 brings 0 -> 1 of 2, which is what the way by 2 is measured against.
        shortcuts("a shortcut is a way around", x, a(0, 1, 2, 3));
        order(x, 0, 1, 3, 2);
        x.make();
        shortcuts("the way by 3 is there still", x, a(0, 1, 2, 3));
        x.arc(0, 3, 9);
        x.make();
        // As 2 goes the way by 3 is as long; as 3 goes 2 is not there.
        shortcuts("none by 2, then one by 3", x, a(0, 1, 10, 3));
        order(x, 2, 0, 1, 3);
        x.make();
        // 3's way is 10, too: as long as that by 2, which is there.
        shortcuts("2 is there to the end", x);
        // No shortcut from or to one that went: 0 goes first here.
        Watched y = net(3, a(0, 1, 1), a(1, 2, 1), a(2, 0, 1));
        order(y, 2, 1, 0);
        y.make();
        shortcuts("a circle, 0 goes first", y, a(2, 1, 2, 0));
        order(y, 1, 0, 2);
        y.make();
        shortcuts("a circle, 2 goes first", y, a(1, 0, 2, 2));
    }

    /** 'and are not one' */
    private static void notOne() {
        shortcuts("there and back", made(2, a(0, 1, 1), a(1, 0, 1)));
        Watched x = made(3, a(0, 2, 1), a(2, 0, 1));
        shortcuts("there and back by the last one", x);
        x.arc(2, 1, 1);
        x.make();
        shortcuts("there and back, and to another", x, a(0, 1, 2, 2));
    }

    /** 'NODES go one by one, the one with the greatest RANK first' */
    private static void theGreatestRankFirst() {
        Watched x = net(4, a(0, 1, 1), a(1, 2, 1), a(2, 3, 1));
        x.make();
        shortcuts("the ends first", x);
        order(x, 0, 3, 1, 2);
        x.make();
        shortcuts("2, then 1", x, a(1, 3, 2, 2), a(0, 3, 3, 1));
        order(x, 0, 3, 2, 1);
        x.make();
        shortcuts("1, then 2", x, a(0, 2, 2, 1), a(0, 3, 3, 2));
        order(x, 0, 2, 3, 1);
        x.make();
        shortcuts("1 first, then 3", x, a(0, 2, 2, 1));
    }

    /** '(by u, then w, by their numbers)': not by their RANKS. */
    private static void byNumbers() {
        Watched x = net(4, a(0, 1, 1), a(1, 0, 2), a(2, 1, 3), a(1, 2, 4), a(3, 1, 5), a(1, 3, 6));
        order(x, 3, 0, 2, 1);
        x.make();
        shortcuts("by numbers", x, a(0, 2, 5, 1), a(0, 3, 7, 1), a(2, 0, 5, 1), a(2, 3, 9, 1), a(3, 0, 7, 1),
            a(3, 2, 9, 1));
        order(x, 2, 3, 0, 1);
        x.make();
        shortcuts("by numbers, another row", x, a(0, 2, 5, 1), a(0, 3, 7, 1), a(2, 0, 5, 1), a(2, 3, 9, 1),
            a(3, 0, 7, 1), a(3, 2, 9, 1));
    }

    /** 'All of one v are looked for as it was before it went.' */
    private static void asItWasBeforeItWent() {
        // With 0 -> 1 of 2 there would be a way 0 -> 1 -> 2 of 3, less than 11.
        Watched x = made(4, a(0, 3, 1), a(3, 1, 1), a(3, 2, 10), a(1, 2, 1));
        shortcuts("0 -> 1 does not help 0 -> 2", x, a(0, 1, 2, 3), a(0, 2, 11, 3));
        // The same, the pair that could help being the later one.
        Watched y = made(4, a(0, 3, 1), a(3, 1, 10), a(3, 2, 1), a(2, 1, 1));
        shortcuts("0 -> 2 does not help 0 -> 1", y, a(0, 1, 11, 3), a(0, 2, 2, 3), a(0, 1, 3, 2));
    }

    /** '(in place of an ARC or SHORTCUT from u to w, if there is one)' */
    private static void inPlaceOfAnArc() {
        Watched x = net(4, a(0, 3, 1), a(3, 1, 1), a(0, 1, 9), a(1, 2, 1));
        order(x, 0, 2, 1, 3);
        x.make();
        // As 1 goes, from 0 to 1 it is 2 and not 9.
        shortcuts("2 in the place of 9", x, a(0, 1, 2, 3), a(0, 2, 3, 1));
        due("16 climb(0, 1)", x.climb(0, 1), 2);
        due("16 climb(0, 2)", x.climb(0, 2), 3);
        due("20 the net has its arcs", x.count(1), 4);
        due("17 the way goes by arcs", x.way(0, 1, -1), 3);
        x.make();
        shortcuts("the same at another make()", x, a(0, 1, 2, 3), a(0, 2, 3, 1));
        due("4 the arc of the net stays as it was", x.lose(0, 1), 9);
        x.lose(0, 3);
        x.make();
        shortcuts("none is left in the net", x);
        due("10 none is left in the net", x.ask(0, 1), NONE);
    }

    private static void inPlaceOfAShortcut() {
        Watched x = net(4, a(0, 3, 1), a(3, 2, 10), a(3, 1, 1), a(1, 2, 1));
        order(x, 0, 2, 1, 3);
        x.make();
        shortcuts("3 in the place of 11", x, a(0, 1, 2, 3), a(0, 2, 11, 3), a(0, 2, 3, 1));
        due("16 climb(0, 2)", x.climb(0, 2), 3);
        // What goes on by it goes on by 3: 2 -> 4 of 1 more.
        Watched y = net(5, a(0, 3, 1), a(3, 2, 10), a(3, 1, 1), a(1, 2, 1), a(2, 4, 1));
        order(y, 0, 4, 2, 1, 3);
        y.make();
        shortcuts("and what goes on by it", y, a(0, 1, 2, 3), a(0, 2, 11, 3), a(0, 2, 3, 1), a(0, 4, 4, 2));
        due("16 climb(0, 4)", y.climb(0, 4), 4);
    }

    private static void shortcutsBySixteen() {
        Watched x = net(16);
        for (int v = 0; v < 15; v++) {
            x.arc(v, v + 1, 1000);
        }
        // 15 is kept behind 0, all between go from 14 down.
        x.rank(15, 1);
        x.make();
        due("15 how many of a chain", x.shortcut(-1, 0), 14);
        for (int k = 0; k < 14; k++) {
            due("15 from", x.shortcut(k, 0), 13 - k);
            due("15 to", x.shortcut(k, 1), 15);
            due("15 length", x.shortcut(k, 2), 2000 + 1000 * k);
            due("15 by", x.shortcut(k, 3), 14 - k);
        }
        due("15 behind the last", x.shortcut(14, 0), BAD);
        due("16 climb(0, 15)", x.climb(0, 15), 15000);
        due("16 climb(1, 15)", x.climb(1, 15), 14000);
        due("16 climb(15, 0)", x.climb(15, 0), NONE);
    }

    // ---- 16 'CLIMBED from a to b. BAD: no NODES. NONE: there is no such way.'

    private static void climbOfOneNode() {
        Watched x = made(3, a(0, 1, 1), a(1, 0, 1));
        for (int v = 0; v < 3; v++) {
            due("16 climb of one node", x.climb(v, v), 0);
        }
        due("16 climb of the one node", made(1).climb(0, 0), 0);
    }

    private static void climbWithoutAWay() {
        Watched x = made(4, a(0, 1, 5), a(2, 1, 5));
        due("16 against the arc", x.climb(1, 0), NONE);
        due("16 both have a way to 1", x.climb(0, 2), NONE);
        due("16 to a node without arcs", x.climb(0, 3), NONE);
        due("16 from a node without arcs", x.climb(3, 0), NONE);
        for (int v : a(-1, 4, 15, 16, LOW, HIGH)) {
            due("16 climb(" + v + ", 0)", x.climb(v, 0), BAD);
            due("16 climb(0, " + v + ")", x.climb(0, v), BAD);
            due("16 climb(" + v + ", " + v + ")", x.climb(v, v), BAD);
        }
    }

    /** 'a way from a to some m .. from greater RANKS to lesser ones, and one from m to b .. from lesser to greater' */
    private static void climbDownAndUp() {
        Watched x = net(3, a(1, 0, 4), a(0, 2, 5));
        x.make();
        due("16 down and up", x.climb(1, 2), 9);
        due("16 down alone, m is the end", x.climb(1, 0), 4);
        due("16 up alone, m is the start", x.climb(0, 2), 5);
        x.arc(1, 2, 8);
        x.make();
        due("16 up alone is less", x.climb(1, 2), 8);
        x.arc(1, 2, 10);
        x.make();
        due("16 down and up is less", x.climb(1, 2), 9);
        order(x, 2, 1, 0);
        x.make();
        due("16 0 went first", x.climb(1, 2), 9);
        due("16 two steps down are less than one", made(3, a(2, 0, 10), a(2, 1, 1), a(1, 0, 1)).climb(2, 0), 2);
        due("16 one step down is less than two", made(3, a(2, 0, 10), a(2, 1, 6), a(1, 0, 6)).climb(2, 0), 10);
        due("16 two steps up are less than one", made(3, a(0, 2, 10), a(0, 1, 1), a(1, 2, 1)).climb(0, 2), 2);
        due("16 one step up is less than two", made(3, a(0, 2, 10), a(0, 1, 6), a(1, 2, 6)).climb(0, 2), 10);
    }

    private static void climbByShortcuts() {
        Watched x = longest();
        // From both ends inwards, so that ways go up and down many times without shortcuts.
        order(x, 0, 15, 2, 13, 4, 11, 6, 9, 8, 7, 10, 5, 12, 3, 14, 1);
        x.make();
        for (int v = 0; v < 16; v++) {
            due("16 climb(0, " + v + ")", x.climb(0, v), 1000 * v);
            due("16 climb(" + v + ", 15)", x.climb(v, 15), 1000 * (15 - v));
            due("16 climb(" + v + ", 0)", x.climb(v, 0), v == 0 ? 0 : NONE);
        }
    }

    // ---- 17 'NODE i (from 0, a itself) .. i = - 1: how many NODES it has. BAD: no NODES. NONE: there is no way.
    // ---- BAD, too: no such i.'

    private static void ways(Watched x, int... nodes) {
        int from = nodes[0];
        int to = nodes[nodes.length - 1];
        due("17 way(" + from + ", " + to + ", -1)", x.way(from, to, -1), nodes.length);
        for (int i = 0; i < nodes.length; i++) {
            due("17 way(" + from + ", " + to + ", " + i + ")", x.way(from, to, i), nodes[i]);
        }
        due("17 way(" + from + ", " + to + ", " + nodes.length + ")", x.way(from, to, nodes.length), BAD);
    }

    private static void howManyNodesOfAWay() {
        Watched x = chain();
        x.make();
        due("17 one", x.way(3, 3, -1), 1);
        due("17 two", x.way(0, 1, -1), 2);
        due("17 three, though an arc leads there", x.way(0, 2, -1), 3);
        due("17 four", x.way(0, 3, -1), 4);
    }

    private static void noSuchNodeOfAWay() {
        Watched x = chain();
        x.make();
        due("17 the first", x.way(0, 3, 0), 0);
        due("17 the last", x.way(0, 3, 3), 3);
        for (int i : a(4, 5, 15, 16, 17, -2, -3, -16, LOW, LOW + 1, HIGH - 1, HIGH)) {
            due("17 way(0, 3, " + i + ")", x.way(0, 3, i), BAD);
        }
        for (int i : a(2, 3, 4, -2, LOW, HIGH)) {
            due("17 way(0, 1, " + i + ")", x.way(0, 1, i), BAD);
        }
        for (int v : a(-1, 4, 15, 16, LOW, HIGH)) {
            for (int i : a(-1, 0, 1, -2, 99)) {
                due("17 way(" + v + ", 0, " + i + ")", x.way(v, 0, i), BAD);
                due("17 way(0, " + v + ", " + i + ")", x.way(0, v, i), BAD);
                due("17 way(" + v + ", " + v + ", " + i + ")", x.way(v, v, i), BAD);
            }
        }
    }

    private static void wayOfOneNode() {
        Watched x = made(2, a(0, 1, 1), a(1, 0, 1));
        for (int v = 0; v < 2; v++) {
            ways(x, v);
            for (int i : a(1, 2, -2, LOW, HIGH)) {
                due("17 way(" + v + ", " + v + ", " + i + ")", x.way(v, v, i), BAD);
            }
        }
    }

    /** NONE stands ahead of 'BAD, too': without a way no i is asked for. */
    private static void noWay() {
        Watched x = chain();
        x.node();
        x.make();
        for (int i : a(-1, 0, 1, 15, 16, -2, LOW, HIGH)) {
            due("17 way(3, 0, " + i + ")", x.way(3, 0, i), NONE);
            due("17 way(0, 4, " + i + ")", x.way(0, 4, i), NONE);
            due("17 way(4, 0, " + i + ")", x.way(4, 0, i), NONE);
        }
    }

    /** 'which goes each time to the NODE with the least number by which there is one' */
    private static void theLeastNumberEachTime() {
        Watched x = net(6, a(5, 3, 1), a(5, 2, 1), a(3, 0, 1), a(2, 1, 1), a(0, 4, 1), a(1, 4, 1));
        x.make();
        // By 2 though 3 leads to 0, which is less than 1.
        ways(x, 5, 2, 1, 4);
        order(x, 3, 0, 5, 4, 2, 1);
        x.make();
        // Numbers, not ranks.
        ways(x, 5, 2, 1, 4);
        x.arc(5, 2, 2);
        x.make();
        // The way by 2 is no LEAST WAY any more.
        ways(x, 5, 3, 0, 4);
        x.arc(5, 4, 3);
        x.make();
        // 3 is less than 4 though the arc to 4 has fewer nodes.
        ways(x, 5, 3, 0, 4);
        x.arc(5, 4, 2);
        x.make();
        ways(x, 5, 4);
        // The end has the least number of all.
        Watched y = made(3, a(2, 0, 2), a(2, 1, 1), a(1, 0, 1));
        ways(y, 2, 0);
        // A node of a lesser number with a lesser arc, but no LEAST WAY by it.
        Watched z = made(4, a(3, 0, 1), a(3, 1, 5), a(1, 2, 5), a(0, 2, 10));
        ways(z, 3, 1, 2);
    }

    private static void theLongestWay() {
        Watched x = longest();
        x.make();
        ways(x, 0, 1, 2, 3, 4, 5, 6, 7, 8, 9, 10, 11, 12, 13, 14, 15);
        due("17 i = 16", x.way(0, 15, 16), BAD);
        due("17 i = 17", x.way(0, 15, 17), BAD);
        due("17 back", x.way(15, 0, -1), NONE);
    }

    // ---- 18 'AT LEAST. BAD: no NODES. NONE: it is SURE that there is no way.'

    private static void leastWithoutLandmarks() {
        Watched x = chain();
        x.make();
        due("18 a way", x.least(0, 3), 0);
        due("18 no way, but nothing is SURE", x.least(3, 0), 0);
        due("18 one node", x.least(2, 2), 0);
        x.landmark(0, true);
        due("18 with one", x.least(1, 3), 7);
        x.landmark(0, false);
        due("18 without it again", x.least(1, 3), 0);
    }

    /** 'if some LANDMARK has a way to a, but none to b, or has one from b, but none from a' */
    private static void sureThatThereIsNoWay() {
        // 2 leads to 0 alone: a way to a, none to b.
        Watched x = made(3, a(2, 0, 5));
        x.landmark(2, true);
        due("18 a way to a, none to b", x.least(0, 1), NONE);
        due("18 a way to b, none to a", x.least(1, 0), 0);
        due("18 the landmark is a", x.least(2, 1), NONE);
        due("18 the landmark is b", x.least(1, 2), NONE);
        due("18 the landmark is a, there is a way", x.least(2, 0), 5);
        // 1 leads to 2 alone: a way from b, none from a.
        Watched y = made(3, a(1, 2, 5));
        y.landmark(2, true);
        due("18 one from b, none from a", y.least(0, 1), NONE);
        due("18 one from a, none from b", y.least(1, 0), 0);
        due("18 the landmark is b, there is a way", y.least(1, 2), 5);
        // SURE by one of two landmarks, whichever comes first; the other one would tell a number.
        for (int sure = 0; sure < 2; sure++) {
            Watched z = made(4, a(sure, 2, 1), a(1 - sure, 2, 1), a(1 - sure, 3, 9));
            z.landmark(0, true);
            z.landmark(1, true);
            due("18 SURE by one of two", z.least(2, 3), NONE);
            z.landmark(sure, false);
            due("18 not SURE by the other one", z.least(2, 3), 8);
        }
    }

    /** No way, but no LANDMARK that tells so. */
    private static void notSure() {
        Watched x = made(4, a(0, 1, 3));
        x.landmark(3, true);
        due("18 a landmark without any way", x.least(1, 0), 0);
        due("18 a landmark without any way", x.least(0, 1), 0);
        // From 0 to both 1 and 2; between these there is none.
        Watched y = made(3, a(0, 1, 3), a(0, 2, 5));
        y.landmark(0, true);
        due("18 a number, though there is no way", y.least(1, 2), 2);
        due("10 there is no way", y.ask(1, 2), NONE);
        due("18 0, though there is no way", y.least(2, 1), 0);
    }

    /** 'the greatest of 0, ..' */
    private static void atLeastNothing() {
        Watched x = made(3, a(0, 1, 9), a(0, 2, 4), a(1, 2, 1), a(2, 1, 1));
        x.landmark(0, true);
        due("18 above 0", x.least(2, 1), 1);
        due("18 below 0", x.least(1, 2), 0);
        due("18 one node", x.least(1, 1), 0);
        due("18 the landmark itself", x.least(0, 0), 0);
        due("18 from the landmark", x.least(0, 1), 5);
    }

    /** 'for each LANDMARK l of which both are there' */
    private static void atLeastOfWhatIsThere() {
        Watched from = made(3, a(2, 0, 5), a(2, 1, 9));
        from.landmark(2, true);
        due("18 from l to both, none to l", from.least(0, 1), 4);
        due("18 from l to both, below 0", from.least(1, 0), 0);
        Watched to = made(3, a(0, 2, 9), a(1, 2, 5));
        to.landmark(2, true);
        due("18 to l from both, none from l", to.least(0, 1), 4);
        due("18 to l from both, below 0", to.least(1, 0), 0);
        // From l to b and from a to l alone: neither difference is there.
        Watched across = made(3, a(2, 1, 7), a(0, 2, 8));
        across.landmark(2, true);
        due("18 one of each two", across.least(0, 1), 0);
        due("19 and both for AT MOST", across.most(0, 1), 15);
    }

    private static void atLeastTheGreatest() {
        // Landmark 0: 3 by ways from it, 6 by ways to it, of the pair 1, 2.
        Watched x = net(5, a(0, 1, 1), a(0, 2, 4), a(1, 0, 9), a(2, 0, 3), a(3, 1, 1), a(3, 2, 50), a(4, 1, 1), a(4, 2, 3));
        x.make();
        x.landmark(0, true);
        due("18 the greater of two differences", x.least(1, 2), 6);
        due("18 the other direction", x.least(2, 1), 0);
        x.landmark(3, true);
        // From 3 to 2 it is 14, by 1 and 0.
        due("18 the greater of two landmarks", x.least(1, 2), 13);
        x.landmark(4, true);
        due("18 a landmark more that tells less", x.least(1, 2), 13);
        x.landmark(3, false);
        due("18 without the greatest", x.least(1, 2), 6);
        x.landmark(0, false);
        due("18 the last one alone", x.least(1, 2), 2);
    }

    // ---- 19 'AT MOST. BAD: no NODES. NONE: no LANDMARK has both.'

    private static void mostWithoutLandmarks() {
        Watched x = chain();
        x.make();
        due("19 a way", x.most(0, 3), NONE);
        due("19 no way", x.most(3, 0), NONE);
        due("19 one node", x.most(2, 2), NONE);
        x.landmark(2, true);
        due("19 with one", x.most(0, 3), 9);
        x.landmark(2, false);
        due("19 without it again", x.most(0, 3), NONE);
    }

    private static void noLandmarkHasBoth() {
        Watched x = made(4, a(0, 2, 1), a(2, 1, 1), a(0, 1, 1), a(3, 1, 1), a(0, 3, 1));
        x.landmark(1, true);
        due("19 to l, none from l", x.most(0, 2), NONE);
        due("19 neither", x.most(2, 3), NONE);
        due("19 l is b", x.most(0, 1), 1);
        due("19 l is a, and leads nowhere", x.most(1, 0), NONE);
        x.landmark(1, false);
        x.landmark(0, true);
        due("19 from l, none to l", x.most(2, 1), NONE);
        due("19 l is a", x.most(0, 1), 1);
        x.landmark(1, true);
        due("19 each has one of both", x.most(2, 3), NONE);
        x.landmark(2, true);
        due("19 one of three has both", x.most(0, 1), 1);
        due("19 there is a way, but by no landmark", x.most(3, 2), NONE);
    }

    private static void atMostTheLeast() {
        Watched x = made(6, a(0, 2, 1), a(2, 1, 9), a(0, 3, 4), a(3, 1, 4), a(0, 4, 9), a(4, 1, 3), a(0, 1, 2), a(1, 0, 2));
        x.landmark(2, true);
        due("19 by 2", x.most(0, 1), 10);
        x.landmark(3, true);
        due("19 by 3, less", x.most(0, 1), 8);
        x.landmark(4, true);
        due("19 by 4, more", x.most(0, 1), 8);
        x.landmark(5, true);
        due("19 by 5, none", x.most(0, 1), 8);
        due("19 there and back", x.most(0, 0), 10);
        due("19 the landmark itself", x.most(3, 3), 0);
        due("19 from one landmark to another", x.most(2, 3), 15);
        x.landmark(5, false);
        x.landmark(1, true);
        due("19 l is b", x.most(0, 1), 2);
        due("19 l is b, one node", x.most(1, 1), 0);
    }

    /** Four LANDMARKS, the first and the last NODE among them, all count. */
    private static void landmarksAtTheEnds() {
        Watched x = longest();
        x.arc(15, 0, 1000);
        x.make();
        int[] four = a(0, 15, 1, 14);
        for (int l : four) {
            x.landmark(l, true);
            due("19 from " + l + " to itself", x.most(l, l), 0);
        }
        due("19 around", x.most(2, 1), 15000);
        due("18 around", x.least(2, 1), 15000);
        due("19 from 14 to 15", x.most(14, 15), 1000);
        due("18 from 15 to 14", x.least(15, 14), 15000);
        due("18 from 5 to 9", x.least(5, 9), 4000);
        for (int l : four) {
            x.landmark(l, false);
        }
        due("18 none is left", x.least(5, 9), 0);
        due("19 none is left", x.most(5, 9), NONE);
    }

    private static void noNodesToBound() {
        Watched x = chain();
        x.landmark(3, true);
        x.make();
        for (int v : a(-1, 4, 15, 16, LOW, HIGH)) {
            due("18 least(" + v + ", 3)", x.least(v, 3), BAD);
            due("18 least(3, " + v + ")", x.least(3, v), BAD);
            due("18 least(" + v + ", " + v + ")", x.least(v, v), BAD);
            due("19 most(" + v + ", 3)", x.most(v, 3), BAD);
            due("19 most(3, " + v + ")", x.most(3, v), BAD);
            due("19 most(" + v + ", " + v + ")", x.most(v, v), BAD);
        }
    }
}
