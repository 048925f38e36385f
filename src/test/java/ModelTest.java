import java.util.ArrayList;
import java.util.Collections;
import java.util.HashMap;
import java.util.HashSet;
import java.util.List;
import java.util.Map;
import java.util.Random;
import java.util.Set;
import java.util.TreeMap;

/**
 * Runs of calls drawn with told seeds, each answered by a model too that goes by the document's words alone:
 * it writes down every way one by one, and looks among them.
 */
public final class ModelTest extends Due {
    private static final int RUNS = 600;
    private static final int FULL_NETS = 40;

    public static void main(String[] args) {
        for (int run = 0; run < RUNS && wrongSoFar() < 20; run++) {
            oneRun(run);
        }
        for (int run = 0; run < FULL_NETS && wrongSoFar() < 20; run++) {
            fullNet(run);
        }
        end();
    }

    private static boolean differs(int run, String call, int got, int want) {
        due("run " + run + ": " + call, got, want);
        return got != want;
    }

    /** Small nets with short lengths, so that there are many ways of one length. */
    private static void oneRun(int run) {
        Random dice = new Random(run);
        Watched x = new Watched();
        Model m = new Model();
        int size = 1 + dice.nextInt(6);
        int longest = run % 4 == 0 ? 1000 : 1 + dice.nextInt(6);
        for (int i = 0; i < size; i++) {
            differs(run, "node()", x.node(), m.node());
        }
        while (x.callsLeft() > 0) {
            if (oneCall(run, dice, x, m, longest)) {
                return;
            }
        }
    }

    private static int some(Random dice, Model m) {
        return dice.nextInt(25) == 0 ? dice.nextInt(40) - 12 : dice.nextInt(Math.max(1, m.nodes));
    }

    private static boolean oneCall(int run, Random dice, Watched x, Model m, int longest) {
        int a = some(dice, m);
        int b = some(dice, m);
        int k = dice.nextInt(8) - 2;
        int what = dice.nextInt(6) - 1;
        int side = dice.nextInt(12) == 0 ? dice.nextInt(5) - 2 : dice.nextInt(2);
        int by = dice.nextInt(10) == 0 ? dice.nextInt(2400) - 1200 : dice.nextInt(9) - 4;
        int length = dice.nextInt(20) == 0 ? dice.nextInt(1100) - 50 : 1 + dice.nextInt(longest);
        boolean on = dice.nextInt(3) != 0;
        String two = "(" + a + ", " + b + ")";
        // A net that holds is asked more often than it is changed.
        int draw = m.holds || dice.nextInt(6) == 0 ? 4 + dice.nextInt(60) : dice.nextInt(8);
        switch (draw) {
            case 0: case 1: case 2: case 3: case 4:
                return differs(run, "arc(" + a + ", " + b + ", " + length + ")", x.arc(a, b, length), m.arc(a, b, length));
            case 5:
                return differs(run, "lose" + two, x.lose(a, b), m.lose(a, b));
            case 6:
                return differs(run, "rank" + two, x.rank(a, b), m.rank(a, b));
            case 7: case 8: case 9:
                return differs(run, "make()", x.make(), m.make());
            case 10: case 11: case 12:
                return differs(run, "landmark(" + a + ", " + on + ")", x.landmark(a, on), m.landmark(a, on));
            case 13: case 14:
                return differs(run, "ranked(" + k + ")", x.ranked(k), m.ranked(k));
            case 15:
                return m.nodes < 6 && differs(run, "node()", x.node(), m.node());
            case 16: case 17: case 18:
                return differs(run, "count(" + what + ")", x.count(what), m.count(what));
            case 19: case 20: case 21: case 22:
                return differs(run, "redone()", x.redone(), m.redone());
            case 23: case 24: case 25: case 26:
                return differs(run, "check()", x.check(), m.check());
            case 27: case 28: case 29: case 30:
                return differs(run, "damage(" + side + ", " + a + ", " + k + ", " + by + ")",
                    x.damage(side, a, k, by), m.damage(side, a, k, by));
            case 31: case 32: case 33: case 34: case 35: case 36:
                return differs(run, "label(" + side + ", " + a + ", " + k + ", " + what + ")",
                    x.label(side, a, k, what), m.label(side, a, k, what));
            case 37: case 38: case 39: case 40:
                return differs(run, "ask" + two, x.ask(a, b), m.ask(a, b));
            case 41: case 42: case 43: case 44:
                return differs(run, "meeting" + two, x.meeting(a, b), m.meeting(a, b));
            case 45: case 46: case 47: case 48:
                return differs(run, "shortcut(" + k + ", " + what + ")", x.shortcut(k, what), m.shortcut(k, what));
            case 49: case 50: case 51:
                return differs(run, "climb" + two, x.climb(a, b), m.climb(a, b));
            case 52: case 53: case 54: case 55:
                return differs(run, "way(" + a + ", " + b + ", " + k + ")", x.way(a, b, k), m.way(a, b, k));
            case 56: case 57: case 58: case 59:
                return differs(run, "least" + two, x.least(a, b), m.least(a, b));
            default:
                return differs(run, "most" + two, x.most(a, b), m.most(a, b));
        }
    }

    /** Sixteen nodes, thick and thin: three tellings of one distance must agree with a plain relaxation. */
    private static void fullNet(int run) {
        Random dice = new Random(1000 + run);
        int[][] lengths = new int[16][16];
        int[] ranks = new int[16];
        for (int a = 0; a < 16; a++) {
            ranks[a] = dice.nextInt(16);
            for (int b = 0; b < 16; b++) {
                boolean isArc = a != b && dice.nextInt(20) <= run / 2;
                lengths[a][b] = isArc ? 1 + dice.nextInt(run % 2 == 0 ? 5 : 1000) : 0;
            }
        }
        int[][] far = relaxed(lengths);
        // All of it is more than one object may be asked.
        for (int a = 0; a < 16; a++) {
            fullRow(run, a, laid(lengths, ranks), far[a]);
        }
    }

    private static int[][] relaxed(int[][] lengths) {
        int[][] far = new int[16][16];
        for (int a = 0; a < 16; a++) {
            for (int b = 0; b < 16; b++) {
                far[a][b] = a == b ? 0 : lengths[a][b] > 0 ? lengths[a][b] : 1 << 20;
            }
        }
        for (int round = 0; round < 16; round++) {
            for (int a = 0; a < 16; a++) {
                for (int b = 0; b < 16; b++) {
                    for (int c = 0; c < 16; c++) {
                        far[a][b] = Math.min(far[a][b], far[a][c] + far[c][b]);
                    }
                }
            }
        }
        return far;
    }

    private static Watched laid(int[][] lengths, int[] ranks) {
        Watched x = net(16);
        for (int a = 0; a < 16; a++) {
            for (int b = 0; b < 16; b++) {
                if (lengths[a][b] > 0) {
                    x.arc(a, b, lengths[a][b]);
                }
            }
        }
        for (int a = 0; a < 16; a++) {
            x.rank(a, ranks[a]);
        }
        x.make();
        return x;
    }

    private static void fullRow(int run, int a, Watched x, int[] far) {
        differs(run, "check()", x.check(), NONE);
        for (int b = 0; b < 16; b++) {
            int want = far[b] >= 1 << 20 ? NONE : far[b];
            differs(run, "ask(" + a + ", " + b + ")", x.ask(a, b), want);
            differs(run, "climb(" + a + ", " + b + ")", x.climb(a, b), want);
            differs(run, "way's end", x.way(a, b, Math.max(0, x.way(a, b, -1) - 1)), want == NONE ? NONE : b);
        }
    }

    /** The document word by word. */
    private static final class Model {
        int nodes = 0;
        final List<Integer> row = new ArrayList<>();
        final Map<Integer, Integer> arcs = new TreeMap<>();
        final Set<Integer> landmarks = new HashSet<>();
        boolean holds = false;
        int changed = 0;
        /** side * 10,000 + node * 100 + station. */
        Map<Integer, Integer> laid = new HashMap<>();
        Map<Integer, Integer> told = new HashMap<>();
        final Map<Integer, List<List<Integer>>> leastWays = new HashMap<>();
        final List<int[]> shortcuts = new ArrayList<>();
        final Map<Integer, Integer> frozen = new HashMap<>();

        boolean has(int v) {
            return 0 <= v && v < nodes;
        }

        int node() {
            if (nodes == 16) {
                return FULL;
            }
            holds = false;
            row.add(nodes);
            return nodes++;
        }

        int arc(int a, int b, int length) {
            if (!has(a) || !has(b) || a == b || length < 1 || length > 1000) {
                return BAD;
            }
            holds = false;
            Integer had = arcs.put(100 * a + b, length);
            return had == null ? NONE : had;
        }

        int lose(int a, int b) {
            if (!has(a) || !has(b) || a == b) {
                return BAD;
            }
            Integer had = arcs.remove(100 * a + b);
            holds &= had == null;
            return had == null ? NONE : had;
        }

        int rank(int v, int k) {
            if (!has(v) || k < 0 || k >= nodes) {
                return BAD;
            }
            holds = false;
            int had = row.indexOf(v);
            row.remove(had);
            row.add(k, v);
            return had;
        }

        int ranked(int k) {
            return k < 0 || k >= row.size() ? BAD : row.get(k);
        }

        int landmark(int v, boolean on) {
            if (!has(v)) {
                return BAD;
            }
            boolean was = landmarks.contains(v);
            if (on && !was && landmarks.size() == 4) {
                return FULL;
            }
            if (on) {
                landmarks.add(v);
            } else {
                landmarks.remove(v);
            }
            return was ? 1 : 0;
        }

        static int length(List<Integer> way, Map<Integer, Integer> along) {
            int length = 0;
            for (int i = 1; i < way.size(); i++) {
                length += along.get(100 * way.get(i - 1) + way.get(i));
            }
            return length;
        }

        /** Each way that has no node twice. */
        static void allWays(List<Integer> so, int b, Set<Integer> by, Map<Integer, Integer> along, List<List<Integer>> all) {
            int at = so.get(so.size() - 1);
            if (at == b) {
                all.add(new ArrayList<>(so));
                return;
            }
            for (int v = 0; v < 16; v++) {
                if (by.contains(v) && !so.contains(v) && along.containsKey(100 * at + v)) {
                    so.add(v);
                    allWays(so, b, by, along, all);
                    so.remove(so.size() - 1);
                }
            }
        }

        static List<List<Integer>> waysOf(int a, int b, Set<Integer> by, Map<Integer, Integer> along) {
            List<List<Integer>> all = new ArrayList<>();
            allWays(new ArrayList<>(List.of(a)), b, by, along, all);
            return all;
        }

        int distance(int a, int b) {
            List<List<Integer>> ways = leastWays.get(100 * a + b);
            return ways.isEmpty() ? NONE : length(ways.get(0), arcs);
        }

        int make() {
            leastWays.clear();
            Set<Integer> everyNode = new HashSet<>(row);
            for (int a = 0; a < nodes; a++) {
                for (int b = 0; b < nodes; b++) {
                    List<List<Integer>> ways = waysOf(a, b, everyNode, arcs);
                    int least = Integer.MAX_VALUE;
                    for (List<Integer> way : ways) {
                        least = Math.min(least, length(way, arcs));
                    }
                    List<List<Integer>> best = new ArrayList<>();
                    for (List<Integer> way : ways) {
                        if (length(way, arcs) == least) {
                            best.add(way);
                        }
                    }
                    leastWays.put(100 * a + b, best);
                }
            }
            Map<Integer, Integer> now = new HashMap<>();
            for (int v = 0; v < nodes; v++) {
                for (int h = 0; h < nodes; h++) {
                    if (isFirst(h, leastWays.get(100 * v + h))) {
                        now.put(100 * v + h, distance(v, h));
                    }
                    if (isFirst(h, leastWays.get(100 * h + v))) {
                        now.put(10000 + 100 * v + h, distance(h, v));
                    }
                }
            }
            Set<String> before = texts(laid);
            Set<String> after = texts(now);
            changed = 0;
            for (String text : before) {
                changed += after.contains(text) ? 0 : 1;
            }
            for (String text : after) {
                changed += before.contains(text) ? 0 : 1;
            }
            laid = now;
            told = new HashMap<>(now);
            contract();
            holds = true;
            return now.size();
        }

        static Set<String> texts(Map<Integer, Integer> labels) {
            Set<String> texts = new HashSet<>();
            for (Map.Entry<Integer, Integer> one : labels.entrySet()) {
                texts.add(one.getKey() + " " + one.getValue());
            }
            return texts;
        }

        boolean isFirst(int h, List<List<Integer>> ways) {
            for (List<Integer> way : ways) {
                for (int u : way) {
                    if (row.indexOf(u) < row.indexOf(h)) {
                        return false;
                    }
                }
            }
            return !ways.isEmpty();
        }

        void contract() {
            shortcuts.clear();
            frozen.clear();
            Map<Integer, Integer> now = new HashMap<>(arcs);
            Set<Integer> there = new HashSet<>(row);
            for (int k = nodes - 1; k >= 0; k--) {
                int v = row.get(k);
                there.remove(v);
                Map<Integer, Integer> before = new HashMap<>(now);
                for (int u = 0; u < nodes; u++) {
                    if (there.contains(u)) {
                        freeze(u, v, before);
                        freeze(v, u, before);
                    }
                    for (int w = 0; w < nodes; w++) {
                        if (u == w || !there.contains(u) || !there.contains(w)
                            || !before.containsKey(100 * u + v) || !before.containsKey(100 * v + w)) {
                            continue;
                        }
                        int both = before.get(100 * u + v) + before.get(100 * v + w);
                        boolean longer = true;
                        for (List<Integer> way : waysOf(u, w, there, before)) {
                            longer &= length(way, before) > both;
                        }
                        if (longer) {
                            now.put(100 * u + w, both);
                            shortcuts.add(new int[] {u, w, both, v});
                        }
                    }
                }
            }
        }

        void freeze(int a, int b, Map<Integer, Integer> as) {
            if (as.containsKey(100 * a + b)) {
                frozen.put(100 * a + b, as.get(100 * a + b));
            }
        }

        List<Integer> stations(int side, int v) {
            List<Integer> stations = new ArrayList<>();
            for (int h : row) {
                if (told.containsKey(10000 * side + 100 * v + h)) {
                    stations.add(h);
                }
            }
            return stations;
        }

        int label(int side, int v, int k, int what) {
            if (!holds) {
                return TURN;
            }
            if (side < 0 || side > 1 || !has(v)) {
                return BAD;
            }
            List<Integer> stations = stations(side, v);
            if (k == -1) {
                return stations.size();
            }
            if (k < 0 || k >= stations.size() || what < 0 || what > 1) {
                return BAD;
            }
            int h = stations.get(k);
            return what == 0 ? h : told.get(10000 * side + 100 * v + h);
        }

        int asked(int a, int b, boolean meeting) {
            List<Integer> sums = new ArrayList<>();
            List<Integer> by = new ArrayList<>();
            for (int h : stations(0, a)) {
                if (stations(1, b).contains(h)) {
                    sums.add(told.get(100 * a + h) + told.get(10000 + 100 * b + h));
                    by.add(h);
                }
            }
            if (sums.isEmpty()) {
                return NONE;
            }
            int least = Collections.min(sums);
            return meeting ? by.get(sums.indexOf(least)) : least;
        }

        int ask(int a, int b) {
            return !holds ? TURN : !has(a) || !has(b) ? BAD : asked(a, b, false);
        }

        int meeting(int a, int b) {
            return !holds ? TURN : !has(a) || !has(b) ? BAD : asked(a, b, true);
        }

        int redone() {
            return holds ? changed : TURN;
        }

        int damage(int side, int v, int k, int by) {
            if (!holds) {
                return TURN;
            }
            int was = k == -1 ? BAD : label(side, v, k, 1);
            if (was == BAD || by < -1000 || by > 1000 || was + by < 0 || was + by > 90000) {
                return BAD;
            }
            told.put(10000 * side + 100 * v + stations(side, v).get(k), was + by);
            return was + by;
        }

        int check() {
            if (!holds) {
                return TURN;
            }
            for (int pair = 0; pair < 256; pair++) {
                int a = pair / 16;
                int b = pair % 16;
                if (has(a) && has(b) && asked(a, b, false) != distance(a, b)) {
                    return pair;
                }
            }
            return NONE;
        }

        int shortcut(int k, int what) {
            if (!holds) {
                return TURN;
            }
            if (k == -1) {
                return shortcuts.size();
            }
            return k < 0 || k >= shortcuts.size() || what < 0 || what > 3 ? BAD : shortcuts.get(k)[what];
        }

        int climb(int a, int b) {
            if (!holds) {
                return TURN;
            }
            if (!has(a) || !has(b)) {
                return BAD;
            }
            Map<Integer, Integer> sinking = new HashMap<>();
            Map<Integer, Integer> rising = new HashMap<>();
            for (Map.Entry<Integer, Integer> one : frozen.entrySet()) {
                boolean sinks = row.indexOf(one.getKey() / 100) > row.indexOf(one.getKey() % 100);
                (sinks ? sinking : rising).put(one.getKey(), one.getValue());
            }
            int best = Integer.MAX_VALUE;
            Set<Integer> everyNode = new HashSet<>(row);
            for (int m = 0; m < nodes; m++) {
                for (List<Integer> down : waysOf(a, m, everyNode, sinking)) {
                    for (List<Integer> up : waysOf(m, b, everyNode, rising)) {
                        best = Math.min(best, length(down, sinking) + length(up, rising));
                    }
                }
            }
            return best == Integer.MAX_VALUE ? NONE : best;
        }

        int way(int a, int b, int i) {
            if (!holds) {
                return TURN;
            }
            if (!has(a) || !has(b)) {
                return BAD;
            }
            List<List<Integer>> ways = new ArrayList<>(leastWays.get(100 * a + b));
            if (ways.isEmpty()) {
                return NONE;
            }
            for (int place = 0; ways.size() > 1; place++) {
                int least = 99;
                for (List<Integer> way : ways) {
                    least = Math.min(least, way.get(place));
                }
                for (int k = ways.size() - 1; k >= 0; k--) {
                    if (ways.get(k).get(place) != least) {
                        ways.remove(k);
                    }
                }
            }
            List<Integer> way = ways.get(0);
            return i == -1 ? way.size() : i < 0 || i >= way.size() ? BAD : way.get(i);
        }

        int least(int a, int b) {
            if (!holds) {
                return TURN;
            }
            if (!has(a) || !has(b)) {
                return BAD;
            }
            List<Integer> bounds = new ArrayList<>(List.of(0));
            boolean sure = false;
            for (int l : landmarks) {
                int la = distance(l, a);
                int lb = distance(l, b);
                int al = distance(a, l);
                int bl = distance(b, l);
                sure |= la >= 0 && lb < 0;
                sure |= bl >= 0 && al < 0;
                bounds.add(la >= 0 && lb >= 0 ? lb - la : 0);
                bounds.add(al >= 0 && bl >= 0 ? al - bl : 0);
            }
            return sure ? NONE : Collections.max(bounds);
        }

        int most(int a, int b) {
            if (!holds) {
                return TURN;
            }
            if (!has(a) || !has(b)) {
                return BAD;
            }
            int best = Integer.MAX_VALUE;
            for (int l : landmarks) {
                if (distance(a, l) >= 0 && distance(l, b) >= 0) {
                    best = Math.min(best, distance(a, l) + distance(l, b));
                }
            }
            return best == Integer.MAX_VALUE ? NONE : best;
        }

        int count(int what) {
            switch (what) {
                case 0:
                    return nodes;
                case 1:
                    return arcs.size();
                case 2:
                    return landmarks.size();
                case 3:
                    return holds ? 1 : 0;
                default:
                    return BAD;
            }
        }
    }
}
