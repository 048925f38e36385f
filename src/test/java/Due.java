/**
 * What the tests share: the constants as the document tells them, the answers that are not as due, and small nets.
 * Tests extend it, since Java imports nothing from a class without a package.
 */
abstract class Due {
    static final int NONE = -1, BAD = -2, FULL = -3, TURN = -4;
    static final int LOW = Integer.MIN_VALUE, HIGH = Integer.MAX_VALUE;

    private static int wrong = 0;

    static void due(String call, int got, int want) {
        if (got != want) {
            wrong++;
            System.out.println(call + " answered " + got + ", due is " + want);
        }
    }

    static int wrongSoFar() {
        return wrong;
    }

    /** Each test's main method ends with this. */
    static void end() {
        System.out.println(wrong == 0 ? "all answers are as due" : wrong + " answers are not as due");
        if (wrong != 0) {
            System.exit(1);
        }
    }

    static int[] a(int... numbers) {
        return numbers;
    }

    static Watched net(int nodes, int[]... arcs) {
        Watched x = new Watched();
        for (int i = 0; i < nodes; i++) {
            x.node();
        }
        for (int[] arc : arcs) {
            x.arc(arc[0], arc[1], arc[2]);
        }
        return x;
    }

    static Watched made(int nodes, int[]... arcs) {
        Watched x = net(nodes, arcs);
        x.make();
        return x;
    }

    /** 0 -> 1 -> 2 -> 3 with a longer arc from 0 to 2. */
    static Watched chain() {
        return net(4, a(0, 1, 2), a(1, 2, 3), a(2, 3, 4), a(0, 2, 9));
    }

    /** Two least ways from 0 to 3, by 1 and by 2. */
    static Watched diamond() {
        return net(4, a(0, 1, 1), a(1, 3, 1), a(0, 2, 1), a(2, 3, 1));
    }

    /** Sixteen nodes in a chain of the longest arcs: 0 -> 1 -> .. -> 15. */
    static Watched longest() {
        Watched x = net(16);
        for (int v = 0; v < 15; v++) {
            x.arc(v, v + 1, 1000);
        }
        return x;
    }

    /** Puts the row into this order. */
    static void order(Watched x, int... nodes) {
        for (int k = 0; k < nodes.length; k++) {
            x.rank(nodes[k], k);
        }
    }
}
