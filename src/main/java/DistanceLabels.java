import java.util.Arrays;

/**
 * Least lengths asked fast: labels of nodes by stations, contraction with
 * shortcuts, and landmarks. The document's promises are named by number.
 */
public final class DistanceLabels {
    public static final int NONE = -1, BAD = -2, FULL = -3, TURN = -4;

    private static final int FINE = 0;
    private static final int MOST_NODES = 16;
    private static final int MOST_LENGTH = 1000;
    private static final int MOST_LANDMARKS = 4;
    private static final int MOST_DAMAGE = 1000;
    private static final int MOST_TOLD = 90000;
    /** The NODE that goes with r others still there brings r * (r - 1) at most: summed for r = 0 .. 15. */
    private static final int MOST_SHORTCUTS = 1120;

    private final Net net;
    private final int[][] distances;
    private final Labels outs;
    private final Labels ins;
    private final Contraction contraction;
    private final boolean[] isLandmark;
    private int landmarks;
    private boolean holds;
    private int changes;

    /** Promise 1. All rows are made here and used again, so that no later call makes an object. */
    public DistanceLabels() {
        net = new Net();
        distances = emptyTable();
        outs = new Labels();
        ins = new Labels();
        contraction = new Contraction();
        isLandmark = new boolean[MOST_NODES];
        landmarks = 0;
        holds = false;
        changes = 0;
    }

    // ---- the net

    /** Promise 2. */
    public int node() {
        if (net.nodes >= MOST_NODES) {
            return FULL;
        }
        holds = false;
        return net.addNode();
    }

    /** Promise 3. */
    public int arc(int a, int b, int length) {
        if (!net.hasTwo(a, b) || length < 1 || length > MOST_LENGTH) {
            return BAD;
        }
        holds = false;
        return net.putArc(a, b, length);
    }

    /** Promise 4. */
    public int lose(int a, int b) {
        if (!net.hasTwo(a, b)) {
            return BAD;
        }
        int had = net.dropArc(a, b);
        if (had != NONE) {
            holds = false;
        }
        return had;
    }

    /** Promise 5. */
    public int rank(int v, int k) {
        if (!net.has(v) || !net.has(k)) {
            return BAD;
        }
        holds = false;
        return net.moveTo(v, k);
    }

    /** Promise 6. */
    public int ranked(int k) {
        return net.has(k) ? net.row[k] : BAD;
    }

    /** Promise 7. */
    public int landmark(int v, boolean on) {
        if (!net.has(v)) {
            return BAD;
        }
        boolean was = isLandmark[v];
        if (on && !was && landmarks >= MOST_LANDMARKS) {
            return FULL;
        }
        if (on != was) {
            isLandmark[v] = on;
            landmarks += on ? 1 : -1;
        }
        return was ? 1 : 0;
    }

    /** Promise 8. */
    public int make() {
        layDistances();
        changes = 0;
        int stations = 0;
        for (int a = 0; a < net.nodes; a++) {
            for (int b = 0; b < net.nodes; b++) {
                stations += layPair(a, b);
            }
        }
        contraction.layAll(net);
        holds = true;
        return stations;
    }

    // ---- labels

    /** Promise 9. */
    public int label(int side, int v, int k, int what) {
        if (!holds) {
            return TURN;
        }
        if (!isSide(side) || !net.has(v)) {
            return BAD;
        }
        Labels labels = ofSide(side);
        if (k == -1) {
            return labels.sizeOf(net, v);
        }
        int station = labels.stationAt(net, v, k);
        if (station == NONE || what < 0 || what > 1) {
            return BAD;
        }
        return what == 0 ? station : labels.told[v][station];
    }

    /** Promise 10. */
    public int ask(int a, int b) {
        int refused = refusalOf(a, b);
        return refused != FINE ? refused : askedOf(a, b);
    }

    /** Promise 11. */
    public int meeting(int a, int b) {
        int refused = refusalOf(a, b);
        return refused != FINE ? refused : meetingOf(a, b);
    }

    /** Promise 12. */
    public int redone() {
        return holds ? changes : TURN;
    }

    /** Promise 13. */
    public int damage(int side, int v, int k, int by) {
        if (!holds) {
            return TURN;
        }
        if (!isSide(side) || !net.has(v) || by < -MOST_DAMAGE || by > MOST_DAMAGE) {
            return BAD;
        }
        Labels labels = ofSide(side);
        int station = labels.stationAt(net, v, k);
        if (station == NONE) {
            return BAD;
        }
        int then = labels.told[v][station] + by;
        if (then < 0 || then > MOST_TOLD) {
            return BAD;
        }
        labels.told[v][station] = then;
        return then;
    }

    /** Promise 14. */
    public int check() {
        if (!holds) {
            return TURN;
        }
        for (int a = 0; a < net.nodes; a++) {
            for (int b = 0; b < net.nodes; b++) {
                if (askedOf(a, b) != distances[a][b]) {
                    return 16 * a + b;
                }
            }
        }
        return NONE;
    }

    // ---- contraction, ways, landmarks

    /** Promise 15. */
    public int shortcut(int k, int what) {
        if (!holds) {
            return TURN;
        }
        if (k == -1) {
            return contraction.came;
        }
        if (k < 0 || k >= contraction.came) {
            return BAD;
        }
        switch (what) {
            case 0:
                return contraction.fromOf(k);
            case 1:
                return contraction.toOf(k);
            case 2:
                return contraction.sums[k];
            case 3:
                return contraction.byOf(k);
            default:
                return BAD;
        }
    }

    /** Promise 16. */
    public int climb(int a, int b) {
        int refused = refusalOf(a, b);
        return refused != FINE ? refused : contraction.climbed(net, a, b);
    }

    /** Promise 17. */
    public int way(int a, int b, int i) {
        int refused = refusalOf(a, b);
        if (refused != FINE) {
            return refused;
        }
        if (distances[a][b] == NONE) {
            return NONE;
        }
        if (i < -1) {
            return BAD;
        }
        int at = a;
        // A least way has each node once, for each arc is 1 long or more.
        for (int step = 0; step < MOST_NODES; step++) {
            if (step == i) {
                return at;
            }
            if (at == b) {
                return i == -1 ? step + 1 : BAD;
            }
            at = nextOnWay(at, b);
        }
        return BAD;
    }

    /** Promise 18. */
    public int least(int a, int b) {
        int refused = refusalOf(a, b);
        if (refused != FINE) {
            return refused;
        }
        int bound = 0;
        for (int l = 0; l < net.nodes; l++) {
            if (isLandmark[l]) {
                if (isSureBy(l, a, b)) {
                    return NONE;
                }
                bound = Math.max(bound, lead(distances[l][b], distances[l][a]));
                bound = Math.max(bound, lead(distances[a][l], distances[b][l]));
            }
        }
        return bound;
    }

    /** Promise 19. */
    public int most(int a, int b) {
        int refused = refusalOf(a, b);
        if (refused != FINE) {
            return refused;
        }
        int bound = NONE;
        for (int l = 0; l < net.nodes; l++) {
            if (isLandmark[l]) {
                bound = lesser(bound, sum(distances[a][l], distances[l][b]));
            }
        }
        return bound;
    }

    /** Promise 20. */
    public int count(int what) {
        switch (what) {
            case 0:
                return net.nodes;
            case 1:
                return net.arcs;
            case 2:
                return landmarks;
            case 3:
                return holds ? 1 : 0;
            default:
                return BAD;
        }
    }

    // ---- what the calls above share

    /** TURN comes before BAD; FINE if neither is due for a call with the nodes a and b. */
    private int refusalOf(int a, int b) {
        if (!holds) {
            return TURN;
        }
        return net.has(a) && net.has(b) ? FINE : BAD;
    }

    private static boolean isSide(int side) {
        return side == 0 || side == 1;
    }

    private Labels ofSide(int side) {
        return side == 0 ? outs : ins;
    }

    private void layDistances() {
        copyAmong(net.row, net.nodes, net.lengths, distances);
        for (int v = 0; v < net.nodes; v++) {
            distances[v][v] = 0;
        }
        shortenAmong(net.row, net.nodes, distances);
    }

    /** Lays the station b of OUT of a and the station a of IN of b, or that they are none: how many they are. */
    private int layPair(int a, int b) {
        int first = firstOnLeastWays(a, b);
        int toB = first == b ? distances[a][b] : NONE;
        int fromA = first == a ? distances[a][b] : NONE;
        changes += outs.lay(a, b, toB) + ins.lay(b, a, fromA);
        return (toB != NONE ? 1 : 0) + (fromA != NONE ? 1 : 0);
    }

    /** The node of the least rank on any least way from a to b; NONE, if there is no way. */
    private int firstOnLeastWays(int a, int b) {
        if (distances[a][b] == NONE) {
            return NONE;
        }
        for (int k = 0; k < net.nodes; k++) {
            int v = net.row[k];
            if (sum(distances[a][v], distances[v][b]) == distances[a][b]) {
                return v;
            }
        }
        return NONE;
    }

    private int meetingOf(int a, int b) {
        int best = NONE;
        int meeting = NONE;
        for (int k = 0; k < net.nodes; k++) {
            int h = net.row[k];
            int both = sum(outs.told[a][h], ins.told[b][h]);
            if (isLess(both, best)) {
                best = both;
                meeting = h;
            }
        }
        return meeting;
    }

    private int askedOf(int a, int b) {
        int h = meetingOf(a, b);
        return h == NONE ? NONE : sum(outs.told[a][h], ins.told[b][h]);
    }

    /** The node of the least number that comes behind a on a least way to b. */
    private int nextOnWay(int a, int b) {
        for (int v = 0; v < net.nodes; v++) {
            int length = net.lengths[a][v];
            if (length != NONE && sum(length, distances[v][b]) == distances[a][b]) {
                return v;
            }
        }
        return b;
    }

    /** Whether the landmark l makes it sure that there is no way from a to b. */
    private boolean isSureBy(int l, int a, int b) {
        return distances[l][a] != NONE && distances[l][b] == NONE
            || distances[b][l] != NONE && distances[a][l] == NONE;
    }

    // ---- lengths that may be NONE

    private static int sum(int x, int y) {
        return x == NONE || y == NONE ? NONE : x + y;
    }

    private static boolean isLess(int x, int y) {
        return x != NONE && (y == NONE || x < y);
    }

    private static int lesser(int x, int y) {
        return isLess(x, y) ? x : y;
    }

    /** By how much x is above y; 0, which binds nothing, unless both are there. */
    private static int lead(int x, int y) {
        return x == NONE || y == NONE ? 0 : x - y;
    }

    // ---- tables of lengths from node to node

    private static int[][] emptyTable() {
        int[][] table = new int[MOST_NODES][MOST_NODES];
        for (int a = 0; a < MOST_NODES; a++) {
            for (int b = 0; b < MOST_NODES; b++) {
                table[a][b] = NONE;
            }
        }
        return table;
    }

    /** Copies what is told between the first nodes of the row, so many of them. */
    private static void copyAmong(int[] row, int many, int[][] from, int[][] to) {
        for (int i = 0; i < many; i++) {
            for (int j = 0; j < many; j++) {
                to[row[i]][row[j]] = from[row[i]][row[j]];
            }
        }
    }

    /** Makes single lengths the least lengths of ways by the first nodes of the row, so many of them. */
    private static void shortenAmong(int[] row, int many, int[][] table) {
        for (int i = 0; i < many; i++) {
            int middle = row[i];
            for (int j = 0; j < many; j++) {
                int toMiddle = table[row[j]][middle];
                if (toMiddle != NONE) {
                    shortenRow(row, many, toMiddle, table[middle], table[row[j]]);
                }
            }
        }
    }

    private static void shortenRow(int[] row, int many, int toMiddle, int[] fromMiddle, int[] fromStart) {
        for (int i = 0; i < many; i++) {
            int end = row[i];
            int rest = fromMiddle[end];
            if (rest != NONE && isLess(toMiddle + rest, fromStart[end])) {
                fromStart[end] = toMiddle + rest;
            }
        }
    }

    /** The nodes, arcs and THE ROW as they are now. */
    private static final class Net {
        private int nodes;
        private int arcs;
        private final int[][] lengths;
        private final int[] row;
        private final int[] ranks;

        private Net() {
            nodes = 0;
            arcs = 0;
            lengths = emptyTable();
            row = new int[MOST_NODES];
            ranks = new int[MOST_NODES];
        }

        /** Ranks are numbered as nodes are, so this tells of a rank too. */
        private boolean has(int v) {
            return v >= 0 && v < nodes;
        }

        private boolean hasTwo(int a, int b) {
            return has(a) && has(b) && a != b;
        }

        private int addNode() {
            int v = nodes;
            nodes++;
            place(v, v);
            return v;
        }

        private int putArc(int a, int b, int length) {
            int had = lengths[a][b];
            if (had == NONE) {
                arcs++;
            }
            lengths[a][b] = length;
            return had;
        }

        private int dropArc(int a, int b) {
            int had = lengths[a][b];
            if (had != NONE) {
                arcs--;
            }
            lengths[a][b] = NONE;
            return had;
        }

        private int moveTo(int v, int k) {
            int had = ranks[v];
            for (int i = had; i < k; i++) {
                place(row[i + 1], i);
            }
            for (int i = had; i > k; i--) {
                place(row[i - 1], i);
            }
            place(v, k);
            return had;
        }

        private void place(int v, int k) {
            row[k] = v;
            ranks[v] = k;
        }
    }

    /** One side, OUT or IN, of the labels of all nodes: the distance of each station, NONE where it is none. */
    private static final class Labels {
        /** As the latest make() laid it: REDONE looks at this, so that damage doesn't count there. */
        private final int[][] laid;
        /** The same with damage. */
        private final int[][] told;

        private Labels() {
            laid = emptyTable();
            told = emptyTable();
        }

        /** Lays what v has of the station h: how many stations that makes otherwise. */
        private int lay(int v, int h, int distance) {
            int had = laid[v][h];
            laid[v][h] = distance;
            told[v][h] = distance;
            if (had == distance) {
                return 0;
            }
            return had == NONE || distance == NONE ? 1 : 2;
        }

        private int sizeOf(Net net, int v) {
            int size = 0;
            for (int h = 0; h < net.nodes; h++) {
                if (told[v][h] != NONE) {
                    size++;
                }
            }
            return size;
        }

        /** Station k of v, by rising ranks; NONE, if there is none such. */
        private int stationAt(Net net, int v, int k) {
            int passed = 0;
            for (int i = 0; i < net.nodes; i++) {
                int h = net.row[i];
                if (told[v][h] != NONE) {
                    if (passed == k) {
                        return h;
                    }
                    passed++;
                }
            }
            return NONE;
        }
    }

    /** The nodes gone one by one, and the shortcuts that came. */
    private static final class Contraction {
        /** Of arcs and shortcuts. One is never changed once an end has gone, so each stays as it was then. */
        private final int[][] lengths;
        private final int[][] around;
        /** From, to and by of each shortcut as digits to the base 16, to keep the object small. */
        private final int[] ends;
        private final int[] sums;
        private int came;
        private final int[] fromStart;
        private final int[] toEnd;

        private Contraction() {
            lengths = emptyTable();
            around = emptyTable();
            ends = new int[MOST_SHORTCUTS];
            sums = new int[MOST_SHORTCUTS];
            came = 0;
            fromStart = new int[MOST_NODES];
            toEnd = new int[MOST_NODES];
        }

        private void layAll(Net net) {
            copyAmong(net.row, net.nodes, net.lengths, lengths);
            came = 0;
            for (int k = net.nodes - 1; k >= 0; k--) {
                letGo(net, k);
            }
        }

        /** The node of rank k goes. The ways around it are laid first, so they know none of its shortcuts. */
        private void letGo(Net net, int k) {
            copyAmong(net.row, k, lengths, around);
            shortenAmong(net.row, k, around);
            int v = net.row[k];
            for (int u = 0; u < net.nodes; u++) {
                for (int w = 0; w < net.nodes; w++) {
                    if (u != w && net.ranks[u] < k && net.ranks[w] < k) {
                        int both = sum(lengths[u][v], lengths[v][w]);
                        if (isLess(both, around[u][w])) {
                            bring(u, w, both, v);
                        }
                    }
                }
            }
        }

        private void bring(int u, int w, int length, int v) {
            lengths[u][w] = length;
            if (came < MOST_SHORTCUTS) {
                ends[came] = (u * 16 + w) * 16 + v;
                sums[came] = length;
                came++;
            }
        }

        private int fromOf(int k) {
            return ends[k] / 256;
        }

        private int toOf(int k) {
            return ends[k] / 16 % 16;
        }

        private int byOf(int k) {
            return ends[k] % 16;
        }

        private int climbed(Net net, int a, int b) {
            climbFrom(net, a);
            climbBackFrom(net, b);
            int best = NONE;
            for (int m = 0; m < net.nodes; m++) {
                best = lesser(best, sum(fromStart[m], toEnd[m]));
            }
            return best;
        }

        /** Ranks only sink on the way from a, so one walk by sinking ranks settles each node before it is left. */
        private void climbFrom(Net net, int a) {
            Arrays.fill(fromStart, NONE);
            fromStart[a] = 0;
            for (int k = net.ranks[a]; k > 0; k--) {
                int v = net.row[k];
                for (int i = 0; i < k; i++) {
                    int w = net.row[i];
                    fromStart[w] = lesser(sum(fromStart[v], lengths[v][w]), fromStart[w]);
                }
            }
        }

        /** The same from the other end, against the direction of the arcs. */
        private void climbBackFrom(Net net, int b) {
            Arrays.fill(toEnd, NONE);
            toEnd[b] = 0;
            for (int k = net.ranks[b]; k > 0; k--) {
                int v = net.row[k];
                for (int i = 0; i < k; i++) {
                    int u = net.row[i];
                    toEnd[u] = lesser(sum(lengths[u][v], toEnd[v]), toEnd[u]);
                }
            }
        }
    }
}
