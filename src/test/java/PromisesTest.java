/** Each promise by hand: ordinary inputs, the edges that the document names, and wrong inputs. */
public final class PromisesTest extends Due {
    public static void main(String[] args) {
        constants();
        promise1();
        promise2();
        promise3();
        promise4();
        promise5and6();
        promise7();
        promise8();
        promise9();
        promise10and11();
        promise12();
        promise13();
        promise14();
        promise15();
        promise16();
        promise17();
        promise18();
        promise19();
        promise20();
        turns();
        turnBeforeBad();
        end();
    }

    private static void constants() {
        due("NONE", DistanceLabels.NONE, NONE);
        due("BAD", DistanceLabels.BAD, BAD);
        due("FULL", DistanceLabels.FULL, FULL);
        due("TURN", DistanceLabels.TURN, TURN);
    }

    private static void promise1() {
        Watched x = new Watched();
        for (int what = 0; what < 4; what++) {
            due("1 count(" + what + ")", x.count(what), 0);
        }
        due("1 ranked(0)", x.ranked(0), BAD);
        due("1 lose(0, 1)", x.lose(0, 1), BAD);
        due("1 arc(0, 1, 1)", x.arc(0, 1, 1), BAD);
        due("1 rank(0, 0)", x.rank(0, 0), BAD);
        due("1 landmark(0, true)", x.landmark(0, true), BAD);
        due("1 make()", x.make(), 0);
        due("1 check()", x.check(), NONE);
        due("1 ask(0, 0)", x.ask(0, 0), BAD);
        due("1 label(0, 0, -1, 0)", x.label(0, 0, -1, 0), BAD);
        due("1 shortcut(-1, 0)", x.shortcut(-1, 0), 0);
        Watched y = net(3, a(0, 1, 1));
        y.landmark(0, true);
        due("1 another object's count(0)", new Watched().count(0), 0);
    }

    private static void promise2() {
        Watched x = new Watched();
        for (int i = 0; i < 16; i++) {
            due("2 node()", x.node(), i);
            due("2 ranked(" + i + ")", x.ranked(i), i);
            due("2 count(0)", x.count(0), i + 1);
        }
        x.make();
        due("2 node() too many", x.node(), FULL);
        due("2 count(0) full", x.count(0), 16);
        due("2 count(3) behind FULL", x.count(3), 1);
        Watched y = net(2);
        y.rank(1, 0);
        due("2 node() behind rank()", y.node(), 2);
        due("2 ranked(2)", y.ranked(2), 2);
        due("2 ranked(0)", y.ranked(0), 1);
    }

    private static void promise3() {
        Watched x = net(3);
        due("3 arc new", x.arc(0, 1, 1), NONE);
        due("3 arc again", x.arc(0, 1, 1000), 1);
        due("3 arc again the same", x.arc(0, 1, 1000), 1000);
        due("3 arc back", x.arc(1, 0, 7), NONE);
        due("3 count(1)", x.count(1), 2);
        int[][] bad = {
            a(0, 0, 5), a(0, 3, 5), a(3, 0, 5), a(-1, 0, 5), a(0, -1, 5), a(LOW, HIGH, 5), a(16, 17, 5),
            a(0, 1, 0), a(0, 1, 1001), a(0, 1, -1), a(0, 1, LOW), a(0, 1, HIGH)};
        x.make();
        for (int[] b : bad) {
            due("3 arc(" + b[0] + ", " + b[1] + ", " + b[2] + ")", x.arc(b[0], b[1], b[2]), BAD);
        }
        due("3 count(1) behind BAD", x.count(1), 2);
        due("3 count(3) behind BAD", x.count(3), 1);
        due("3 ask(0, 1)", x.ask(0, 1), 1000);
    }

    private static void promise4() {
        Watched x = chain();
        x.make();
        due("4 lose none", x.lose(1, 0), NONE);
        due("4 lose one node", x.lose(1, 1), BAD);
        due("4 lose no node", x.lose(0, 4), BAD);
        due("4 lose no node", x.lose(4, 0), BAD);
        due("4 lose no node", x.lose(-1, 0), BAD);
        due("4 lose no node", x.lose(LOW, HIGH), BAD);
        due("4 count(3) with nothing lost", x.count(3), 1);
        due("4 count(1) with nothing lost", x.count(1), 4);
        due("4 lose(1, 2)", x.lose(1, 2), 3);
        due("4 count(3)", x.count(3), 0);
        due("4 count(1)", x.count(1), 3);
        due("4 lose(1, 2) again", x.lose(1, 2), NONE);
        x.make();
        due("4 ask(0, 2)", x.ask(0, 2), 9);
        due("4 ask(1, 2)", x.ask(1, 2), NONE);
        due("4 arc(1, 2, 5)", x.arc(1, 2, 5), NONE);
    }

    private static void row(Watched x, int... nodes) {
        for (int k = 0; k < nodes.length; k++) {
            due("6 ranked(" + k + ")", x.ranked(k), nodes[k]);
        }
        due("6 ranked behind the last", x.ranked(nodes.length), BAD);
    }

    private static void promise5and6() {
        Watched x = net(5);
        row(x, 0, 1, 2, 3, 4);
        due("5 rank(1, 3)", x.rank(1, 3), 1);
        row(x, 0, 2, 3, 1, 4);
        due("5 rank(4, 0)", x.rank(4, 0), 4);
        row(x, 4, 0, 2, 3, 1);
        due("5 rank(4, 4)", x.rank(4, 4), 0);
        row(x, 0, 2, 3, 1, 4);
        due("5 rank(3, 2)", x.rank(3, 2), 2);
        row(x, 0, 2, 3, 1, 4);
        due("5 rank(3, 1)", x.rank(3, 1), 2);
        row(x, 0, 3, 2, 1, 4);
        x.make();
        int[][] bad = {a(5, 0), a(0, 5), a(-1, 0), a(0, -1), a(16, 0), a(0, 16), a(LOW, 0), a(0, HIGH)};
        for (int[] b : bad) {
            due("5 rank(" + b[0] + ", " + b[1] + ")", x.rank(b[0], b[1]), BAD);
        }
        row(x, 0, 3, 2, 1, 4);
        due("5 count(3) behind BAD", x.count(3), 1);
        due("6 ranked(-1)", x.ranked(-1), BAD);
        due("6 ranked(16)", x.ranked(16), BAD);
        due("6 ranked(LOW)", x.ranked(LOW), BAD);
        due("6 ranked(HIGH)", x.ranked(HIGH), BAD);
    }

    private static void promise7() {
        Watched x = net(6);
        x.make();
        due("7 landmark(0, false)", x.landmark(0, false), 0);
        due("7 landmark(0, true)", x.landmark(0, true), 0);
        due("7 landmark(0, true) again", x.landmark(0, true), 1);
        due("7 count(2)", x.count(2), 1);
        x.landmark(1, true);
        x.landmark(2, true);
        due("7 the fourth", x.landmark(3, true), 0);
        due("7 the fifth", x.landmark(4, true), FULL);
        due("7 count(2) full", x.count(2), 4);
        due("7 one of the four again", x.landmark(3, true), 1);
        due("7 none of the four, off", x.landmark(4, false), 0);
        due("7 landmark(6, true)", x.landmark(6, true), BAD);
        due("7 landmark(-1, true)", x.landmark(-1, true), BAD);
        due("7 landmark(16, false)", x.landmark(16, false), BAD);
        due("7 landmark(LOW, true)", x.landmark(LOW, true), BAD);
        due("7 landmark(HIGH, true)", x.landmark(HIGH, true), BAD);
        due("7 off", x.landmark(3, false), 1);
        due("7 off again", x.landmark(3, false), 0);
        due("7 count(2) behind off", x.count(2), 3);
        due("7 room again", x.landmark(4, true), 0);
        due("7 count(3)", x.count(3), 1);
    }

    private static void promise8() {
        due("8 no nodes", new Watched().make(), 0);
        due("8 no arcs", net(16).make(), 32);
        due("8 chain", chain().make(), 14);
        Watched x = diamond();
        // OUT: itself each, 4. IN: 0 | 0 1 | 0 2 | 0 1 2 3.
        due("8 diamond", x.make(), 13);
        // Row 2 0 1 3: 2 lies on one of two least ways from 0 to 3.
        x.rank(2, 0);
        due("8 diamond by 2", x.make(), 12);
        due("8 make() again", x.make(), 12);
    }

    private static void label(Watched x, int side, int v, int... stations) {
        String of = "9 label(" + side + ", " + v + ", ";
        due(of + "-1, 0)", x.label(side, v, -1, 0), stations.length / 2);
        due(of + "-1, 99)", x.label(side, v, -1, 99), stations.length / 2);
        due(of + "-1, LOW)", x.label(side, v, -1, LOW), stations.length / 2);
        for (int k = 0; k < stations.length / 2; k++) {
            due(of + k + ", 0)", x.label(side, v, k, 0), stations[2 * k]);
            due(of + k + ", 1)", x.label(side, v, k, 1), stations[2 * k + 1]);
            due(of + k + ", 2)", x.label(side, v, k, 2), BAD);
            due(of + k + ", -1)", x.label(side, v, k, -1), BAD);
        }
        due(of + "too great, 0)", x.label(side, v, stations.length / 2, 0), BAD);
        due(of + "-2, 0)", x.label(side, v, -2, 0), BAD);
        due(of + "LOW, 0)", x.label(side, v, LOW, 0), BAD);
        due(of + "HIGH, 1)", x.label(side, v, HIGH, 1), BAD);
    }

    private static void promise9() {
        Watched x = chain();
        x.make();
        label(x, 0, 0, 0, 0);
        label(x, 0, 3, 3, 0);
        label(x, 1, 0, 0, 0);
        label(x, 1, 2, 0, 5, 1, 3, 2, 0);
        label(x, 1, 3, 0, 9, 1, 7, 2, 4, 3, 0);
        x.rank(3, 0);
        x.rank(2, 1);
        x.make();
        label(x, 0, 0, 3, 9, 2, 5, 0, 0);
        label(x, 0, 1, 3, 7, 2, 3, 1, 0);
        label(x, 1, 3, 3, 0);
        label(x, 1, 1, 0, 2, 1, 0);
        Watched y = diamond();
        y.rank(2, 0);
        y.make();
        label(y, 0, 0, 2, 1, 0, 0);
        label(y, 1, 3, 2, 1, 1, 1, 3, 0);
        label(y, 1, 1, 0, 1, 1, 0);
        due("9 side 2", x.label(2, 0, 0, 0), BAD);
        due("9 side 2, k -1", x.label(2, 0, -1, 0), BAD);
        due("9 side -1", x.label(-1, 0, 0, 0), BAD);
        due("9 side LOW", x.label(LOW, 0, 0, 0), BAD);
        due("9 node 4", x.label(0, 4, -1, 0), BAD);
        due("9 node -1", x.label(0, -1, -1, 0), BAD);
        due("9 node 16", x.label(1, 16, 0, 0), BAD);
        due("9 node HIGH", x.label(1, HIGH, 0, 0), BAD);
    }

    private static void promise10and11() {
        Watched x = chain();
        x.make();
        due("10 ask(0, 3)", x.ask(0, 3), 9);
        due("11 meeting(0, 3)", x.meeting(0, 3), 0);
        due("10 ask(1, 1)", x.ask(1, 1), 0);
        due("11 meeting(1, 1)", x.meeting(1, 1), 1);
        due("10 ask(3, 0)", x.ask(3, 0), NONE);
        due("11 meeting(3, 0)", x.meeting(3, 0), NONE);
        int[][] bad = {a(4, 0), a(0, 4), a(-1, 0), a(0, -1), a(16, 16), a(LOW, HIGH)};
        for (int[] b : bad) {
            due("10 ask(" + b[0] + ", " + b[1] + ")", x.ask(b[0], b[1]), BAD);
            due("11 meeting(" + b[0] + ", " + b[1] + ")", x.meeting(b[0], b[1]), BAD);
        }
        x.rank(2, 0);
        x.make();
        due("10 ask(0, 3) by 2", x.ask(0, 3), 9);
        due("11 meeting(0, 3) by 2", x.meeting(0, 3), 2);
        due("11 meeting(0, 1) by 2", x.meeting(0, 1), 0);
        Watched y = diamond();
        y.rank(2, 0);
        y.rank(1, 1);
        y.make();
        // Both 2 and 1 are stations of OUT of 0 and of IN of 3, with one sum.
        due("11 the first by rank of two", y.meeting(0, 3), 2);
        y.damage(0, 0, 0, 1);
        due("11 the other one behind damage", y.meeting(0, 3), 1);
        due("10 ask behind damage of one", y.ask(0, 3), 2);
        y.damage(1, 3, 1, 3);
        due("11 the first one again", y.meeting(0, 3), 2);
        due("10 ask behind damage of both", y.ask(0, 3), 3);
    }

    private static void promise12() {
        Watched x = chain();
        x.make();
        due("12 the first make()", x.redone(), 14);
        x.make();
        due("12 nothing changed", x.redone(), 0);
        x.arc(2, 3, 6);
        x.make();
        // Another distance of 0, 1, 2 in IN of 3, each twice.
        due("12 another length", x.redone(), 6);
        due("12 asked twice", x.redone(), 6);
        x.lose(2, 3);
        x.make();
        due("12 gone", x.redone(), 3);
        x.node();
        due("12 behind node()", x.redone(), TURN);
        x.make();
        due("12 a node more", x.redone(), 2);
        x.damage(1, 2, 0, 5);
        due("12 damage is not of it", x.redone(), 2);
        x.make();
        due("12 damage undone is no change", x.redone(), 0);
        x.damage(1, 2, 0, 5);
        x.arc(2, 3, 6);
        x.make();
        due("12 damage undone and an arc", x.redone(), 3);
        Watched y = net(2);
        y.make();
        y.rank(1, 0);
        y.make();
        due("12 another order alone", y.redone(), 0);
        Watched z = net(2, a(0, 1, 5), a(1, 0, 5));
        z.make();
        z.rank(1, 0);
        z.make();
        // IN of 1 and OUT of 1 lose 0, OUT of 0 and IN of 0 get 1.
        due("12 stations change over", z.redone(), 4);
    }

    private static void promise13() {
        Watched x = chain();
        x.make();
        due("13 damage up", x.damage(1, 3, 1, 5), 12);
        due("13 label", x.label(1, 3, 1, 1), 12);
        due("13 label's node", x.label(1, 3, 1, 0), 1);
        due("13 ask(1, 3)", x.ask(1, 3), 12);
        due("13 ask(0, 3)", x.ask(0, 3), 9);
        due("13 damage down", x.damage(1, 3, 1, -12), 0);
        due("13 ask(1, 3) at 0", x.ask(1, 3), 0);
        due("13 below 0", x.damage(1, 3, 1, -1), BAD);
        due("13 by 0", x.damage(1, 3, 1, 0), 0);
        due("13 by 1000", x.damage(1, 3, 1, 1000), 1000);
        due("13 by 1001", x.damage(1, 3, 1, 1001), BAD);
        due("13 by -1001", x.damage(1, 3, 1, -1001), BAD);
        due("13 by -1000", x.damage(1, 3, 1, -1000), 0);
        due("13 by LOW", x.damage(1, 3, 1, LOW), BAD);
        due("13 by HIGH", x.damage(1, 3, 1, HIGH), BAD);
        for (int i = 1; i <= 90; i++) {
            due("13 up to 90,000", x.damage(0, 2, 0, 1000), 1000 * i);
        }
        due("13 above 90,000", x.damage(0, 2, 0, 1), BAD);
        due("13 stays", x.label(0, 2, 0, 1), 90000);
        due("13 ask by 90,000", x.ask(2, 2), 90000);
        int[][] bad = {
            a(2, 0, 0), a(-1, 0, 0), a(HIGH, 0, 0), a(0, 4, 0), a(0, -1, 0), a(0, 16, 0), a(0, LOW, 0),
            a(0, 0, -1), a(0, 0, 1), a(1, 3, 4), a(1, 3, LOW), a(1, 3, HIGH)};
        for (int[] b : bad) {
            due("13 damage(" + b[0] + ", " + b[1] + ", " + b[2] + ", 1)", x.damage(b[0], b[1], b[2], 1), BAD);
        }
        due("13 count(3)", x.count(3), 1);
        due("13 climb", x.climb(2, 2), 0);
        due("13 way", x.way(1, 3, -1), 3);
        x.landmark(0, true);
        due("13 a landmark leaves damage", x.label(0, 2, 0, 1), 90000);
        due("13 make()", x.make(), 14);
        due("13 whole again", x.label(0, 2, 0, 1), 0);
        due("13 whole again", x.ask(1, 3), 7);
        due("13 check() whole", x.check(), NONE);
    }

    private static void promise14() {
        Watched x = chain();
        x.make();
        due("14 whole", x.check(), NONE);
        x.damage(1, 3, 1, 1);
        due("14 (1, 3)", x.check(), 16 + 3);
        x.damage(0, 1, 0, 2);
        due("14 (1, 1)", x.check(), 16 + 1);
        x.damage(1, 0, 0, 2);
        due("14 (0, 0)", x.check(), 0);
        x.damage(1, 0, 0, -2);
        due("14 (1, 1) again", x.check(), 16 + 1);
        x.damage(0, 1, 0, -2);
        due("14 (1, 3) again", x.check(), 16 + 3);
        x.damage(1, 3, 1, -1);
        due("14 mended by hand", x.check(), NONE);
        x.damage(1, 2, 0, -1);
        due("14 too little", x.check(), 2);
        Watched y = diamond();
        y.rank(2, 0);
        y.rank(1, 1);
        y.make();
        y.damage(1, 3, 0, 4);
        due("14 another station tells (0, 3), none (2, 3)", y.check(), 2 * 16 + 3);
        Watched z = net(16);
        z.make();
        z.damage(0, 15, 0, 1);
        due("14 the last pair", z.check(), 255);
    }

    private static void shortcuts(Watched x, int[]... all) {
        due("15 shortcut(-1, 0)", x.shortcut(-1, 0), all.length);
        due("15 shortcut(-1, 9)", x.shortcut(-1, 9), all.length);
        due("15 shortcut(-1, LOW)", x.shortcut(-1, LOW), all.length);
        for (int k = 0; k < all.length; k++) {
            for (int what = 0; what < 4; what++) {
                due("15 shortcut(" + k + ", " + what + ")", x.shortcut(k, what), all[k][what]);
            }
            due("15 shortcut(" + k + ", 4)", x.shortcut(k, 4), BAD);
            due("15 shortcut(" + k + ", -1)", x.shortcut(k, -1), BAD);
        }
        due("15 too great", x.shortcut(all.length, 0), BAD);
        due("15 shortcut(-2, 0)", x.shortcut(-2, 0), BAD);
        due("15 shortcut(LOW, 0)", x.shortcut(LOW, 0), BAD);
        due("15 shortcut(HIGH, 0)", x.shortcut(HIGH, 0), BAD);
        due("15 shortcut(0, HIGH)", x.shortcut(0, HIGH), BAD);
    }

    private static void promise15() {
        Watched x = net(3, a(0, 2, 1), a(2, 1, 1));
        x.make();
        shortcuts(x, a(0, 1, 2, 2));
        x.arc(0, 1, 3);
        x.make();
        shortcuts(x, a(0, 1, 2, 2));
        due("15 the arc stays in the net", x.count(1), 3);
        due("15 the arc stays in the net", x.arc(0, 1, 2), 3);
        x.make();
        shortcuts(x);
        // There and back is no shortcut.
        Watched back = net(2, a(0, 1, 1), a(1, 0, 1));
        back.make();
        shortcuts(back);
        // A way around by a node that has gone is none.
        Watched gone = net(4, a(0, 3, 1), a(3, 1, 1), a(0, 2, 1), a(2, 1, 1));
        gone.make();
        shortcuts(gone, a(0, 1, 2, 2));
        // By u, then w; pairs from 1 to 0 as well.
        Watched star = net(4, a(0, 3, 1), a(1, 3, 2), a(2, 3, 3), a(3, 0, 10), a(3, 1, 20), a(3, 2, 30));
        star.make();
        shortcuts(star, a(0, 1, 21, 3), a(0, 2, 31, 3), a(1, 0, 12, 3), a(1, 2, 32, 3), a(2, 0, 13, 3), a(2, 1, 23, 3));
        star.rank(3, 0);
        star.make();
        shortcuts(star);
        // As it was before 3 went: the shortcut from 0 to 1 is no part of a way around from 0 to 2.
        Watched before = net(4, a(0, 3, 1), a(3, 2, 10), a(3, 1, 1), a(1, 2, 1));
        before.make();
        shortcuts(before, a(0, 1, 2, 3), a(0, 2, 11, 3));
        // A shortcut in the place of a shortcut comes as one more.
        before.rank(2, 1);
        before.make();
        shortcuts(before, a(0, 1, 2, 3), a(0, 2, 11, 3), a(0, 2, 3, 1));
        due("16 by the later one", before.climb(0, 2), 3);
        fullStar();
    }

    /** Sixteen nodes, all arcs to the last one and from it: a shortcut for each two others. */
    private static Watched star16() {
        Watched x = net(16);
        for (int u = 0; u < 15; u++) {
            x.arc(u, 15, 1 + u);
            x.arc(15, u, 1000 - u);
        }
        x.make();
        return x;
    }

    private static void fullStar() {
        int came = 0;
        for (int u = 0; u < 15; u++) {
            Watched x = star16();
            due("15 how many of the star", x.shortcut(-1, 0), 15 * 14);
            for (int w = 0; w < 15; w++) {
                if (u != w) {
                    due("15 from", x.shortcut(came, 0), u);
                    due("15 to", x.shortcut(came, 1), w);
                    due("15 length", x.shortcut(came, 2), 1 + u + 1000 - w);
                    due("15 by", x.shortcut(came, 3), 15);
                    came++;
                }
            }
        }
        Watched x = star16();
        due("15 behind the last of the star", x.shortcut(came, 0), BAD);
        due("9 OUT of the last of sixteen", x.label(0, 15, -1, 0), 16);
        due("9 IN of the last of sixteen", x.label(1, 15, -1, 0), 16);
        x.landmark(15, true);
        due("18 by the last of sixteen", x.least(14, 0), 14);
        due("19 by the last of sixteen", x.most(14, 0), 1015);
        due("19 of the last of sixteen", x.most(15, 15), 0);
    }

    private static void promise16() {
        Watched x = chain();
        x.make();
        due("16 climb(0, 3)", x.climb(0, 3), 9);
        due("16 climb(0, 2)", x.climb(0, 2), 5);
        due("16 climb(2, 2)", x.climb(2, 2), 0);
        due("16 climb(3, 0)", x.climb(3, 0), NONE);
        x.rank(1, 3);
        x.rank(0, 2);
        x.make();
        due("16 climb(0, 3) by a shortcut", x.climb(0, 3), 9);
        due("16 climb(1, 3)", x.climb(1, 3), 7);
        // 1 and 2 are both greater in rank than 0: down to it and up again.
        Watched y = net(3, a(1, 0, 4), a(0, 2, 5));
        y.make();
        due("16 down and up", y.climb(1, 2), 9);
        due("16 down alone", y.climb(1, 0), 4);
        due("16 up alone", y.climb(0, 2), 5);
        due("16 none", y.climb(2, 1), NONE);
        int[][] bad = {a(4, 0), a(0, 4), a(-1, 0), a(0, -1), a(16, 0), a(LOW, HIGH)};
        for (int[] b : bad) {
            due("16 climb(" + b[0] + ", " + b[1] + ")", x.climb(b[0], b[1]), BAD);
        }
    }

    private static void ways(Watched x, int... nodes) {
        int from = nodes[0];
        int to = nodes[nodes.length - 1];
        due("17 way's nodes", x.way(from, to, -1), nodes.length);
        for (int i = 0; i < nodes.length; i++) {
            due("17 way(" + from + ", " + to + ", " + i + ")", x.way(from, to, i), nodes[i]);
        }
        due("17 behind the last", x.way(from, to, nodes.length), BAD);
        due("17 i = -2", x.way(from, to, -2), BAD);
        due("17 i = LOW", x.way(from, to, LOW), BAD);
        due("17 i = HIGH", x.way(from, to, HIGH), BAD);
    }

    private static void promise17() {
        Watched x = chain();
        x.make();
        ways(x, 0, 1, 2, 3);
        ways(x, 1, 2);
        ways(x, 2);
        due("17 no way", x.way(3, 0, -1), NONE);
        due("17 no way, no i", x.way(3, 0, -2), NONE);
        due("17 no way, no i", x.way(3, 0, 99), NONE);
        int[][] bad = {a(4, 0), a(0, 4), a(-1, 0), a(0, -1), a(16, 0), a(LOW, HIGH)};
        for (int[] b : bad) {
            due("17 way(" + b[0] + ", " + b[1] + ", 0)", x.way(b[0], b[1], 0), BAD);
            due("17 way(" + b[0] + ", " + b[1] + ", -1)", x.way(b[0], b[1], -1), BAD);
        }
        Watched y = diamond();
        y.rank(2, 0);
        y.make();
        ways(y, 0, 1, 3);
        // The least number wins, not the fewest nodes: 0 1 2 3 and 0 2 3 and 0 3 are of one length.
        Watched z = net(4, a(0, 1, 1), a(1, 2, 1), a(2, 3, 1), a(0, 2, 2), a(0, 3, 3));
        z.make();
        ways(z, 0, 1, 2, 3);
        // The end itself may be the least number.
        Watched e = net(3, a(2, 0, 2), a(2, 1, 1), a(1, 0, 1));
        e.make();
        ways(e, 2, 0);
        Watched long16 = net(16);
        int[] all = new int[16];
        for (int i = 0; i < 16; i++) {
            all[i] = 15 - i;
            if (i > 0) {
                long16.arc(i, i - 1, 1000);
            }
        }
        long16.make();
        ways(long16, all);
        due("17 ask of the longest", long16.ask(15, 0), 15000);
    }

    private static void promise18() {
        Watched x = chain();
        x.make();
        due("18 no landmark", x.least(0, 3), 0);
        due("18 no landmark, no way", x.least(3, 0), 0);
        x.landmark(0, true);
        due("18 from the landmark", x.least(1, 3), 7);
        due("18 no less than 0, and SURE of nothing", x.least(0, 0), 0);
        due("18 the landmark has no way from both", x.least(3, 1), 0);
        x.landmark(0, false);
        x.landmark(3, true);
        due("18 to the landmark", x.least(0, 2), 5);
        due("18 to the landmark, below 0", x.least(2, 0), 0);
        x.landmark(2, true);
        due("18 a way to 3, none to 0", x.least(3, 0), NONE);
        x.landmark(3, false);
        x.landmark(2, false);
        // 2 is reached from 1, but not from 0.
        Watched y = net(4, a(1, 2, 5), a(0, 3, 1));
        y.make();
        y.landmark(2, true);
        due("18 one from b, none from a", y.least(0, 1), NONE);
        due("18 one from a, none from b", y.least(1, 0), 0);
        // Only one of the two differences is there.
        Watched to = net(3, a(2, 0, 5), a(2, 1, 9));
        to.make();
        to.landmark(2, true);
        due("18 from l alone", to.least(0, 1), 4);
        due("18 from l alone, below 0", to.least(1, 0), 0);
        Watched from = net(3, a(0, 2, 9), a(1, 2, 5));
        from.make();
        from.landmark(2, true);
        due("18 to l alone", from.least(0, 1), 4);
        due("18 to l alone, below 0", from.least(1, 0), 0);
        // The greatest of two landmarks, and SURE by the later of two.
        Watched two = net(5, a(2, 0, 5), a(2, 1, 9), a(3, 0, 1), a(3, 1, 7), a(4, 0, 1));
        two.make();
        two.landmark(2, true);
        two.landmark(3, true);
        due("18 the greatest", two.least(0, 1), 6);
        two.landmark(4, true);
        due("18 SURE by one of three", two.least(0, 1), NONE);
        int[][] bad = {a(5, 0), a(0, 5), a(-1, 0), a(0, -1), a(16, 0), a(LOW, HIGH)};
        for (int[] b : bad) {
            due("18 least(" + b[0] + ", " + b[1] + ")", two.least(b[0], b[1]), BAD);
        }
    }

    private static void promise19() {
        Watched x = net(4, a(0, 1, 2), a(1, 2, 3), a(2, 0, 4), a(0, 2, 4), a(2, 3, 1));
        x.make();
        due("19 no landmark", x.most(0, 2), NONE);
        x.landmark(1, true);
        due("19 by 1", x.most(0, 2), 5);
        due("19 there and back", x.most(0, 0), 9);
        due("19 of the landmark itself", x.most(1, 1), 0);
        x.landmark(3, true);
        due("19 3 has none from it", x.most(0, 2), 5);
        due("19 to 3", x.most(0, 3), 5);
        due("19 none to 1", x.most(3, 0), NONE);
        due("19 3 itself", x.most(3, 3), 0);
        x.landmark(2, true);
        due("19 the least", x.most(0, 2), 4);
        x.landmark(2, false);
        due("19 the landmark is none any more", x.most(0, 2), 5);
        x.damage(0, 0, 0, 100);
        due("19 damage is not of it", x.most(0, 2), 5);
        int[][] bad = {a(4, 0), a(0, 4), a(-1, 0), a(0, -1), a(16, 0), a(LOW, HIGH)};
        for (int[] b : bad) {
            due("19 most(" + b[0] + ", " + b[1] + ")", x.most(b[0], b[1]), BAD);
        }
    }

    private static void promise20() {
        Watched x = chain();
        x.landmark(1, true);
        x.landmark(3, true);
        due("20 count(0)", x.count(0), 4);
        due("20 count(1)", x.count(1), 4);
        due("20 count(2)", x.count(2), 2);
        due("20 count(3)", x.count(3), 0);
        x.make();
        due("20 count(3) behind make()", x.count(3), 1);
        x.node();
        due("20 count(3) behind node()", x.count(3), 0);
        due("20 count(-1)", x.count(-1), BAD);
        due("20 count(4)", x.count(4), BAD);
        due("20 count(LOW)", x.count(LOW), BAD);
        due("20 count(HIGH)", x.count(HIGH), BAD);
    }

    private static void all(String behind, Watched x, int n, boolean turn) {
        int[] got = {
            x.label(0, n, -1, 0), x.ask(0, n), x.meeting(n, 0), x.redone(), x.damage(0, n, 0, 1), x.check(),
            x.shortcut(9999, 0), x.climb(n, 0), x.way(0, n, 0), x.least(0, n), x.most(n, n)};
        for (int i = 0; i < got.length; i++) {
            boolean isTurn = got[i] == TURN;
            if (isTurn != turn) {
                due("TURN of call " + i + " behind " + behind, got[i], turn ? TURN : 0);
            }
        }
        due("count(3) behind " + behind, x.count(3), turn ? 0 : 1);
    }

    private static void turns() {
        Watched x = new Watched();
        all("nothing", x, 0, true);
        x.make();
        all("make()", x, 0, false);
        x.node();
        all("node()", x, 0, true);
        x.node();
        x.make();
        x.landmark(0, true);
        x.lose(0, 1);
        x.arc(0, 0, 1);
        x.arc(0, 1, 0);
        x.rank(0, 2);
        x.ranked(0);
        all("what changes nothing", x, 0, false);
        x.arc(0, 1, 5);
        all("arc()", x, 0, true);
        x.make();
        x.arc(0, 1, 5);
        all("arc() with the length that it had", x, 0, true);
        x.make();
        x.rank(1, 1);
        all("rank() with the rank that it had", x, 0, true);
        x.make();
        x.lose(0, 1);
        all("lose()", x, 0, true);
        x.lose(0, 1);
        all("lose() of none", x, 0, true);
        x.make();
        all("the last make()", x, 0, false);
    }

    private static void turnBeforeBad() {
        Watched x = chain();
        all("wrong nodes without make()", x, 99, true);
        x.make();
        all("wrong nodes with make()", x, 99, false);
        due("label, then BAD", x.label(0, 99, -1, 0), BAD);
    }
}
