/**
 * An object of DistanceLabels whose calls are counted: the document promises nothing of the 513th call of an object,
 * so a test that made one would ask for more than is promised.
 */
final class Watched {
    static final int MOST_CALLS = 512;

    private final DistanceLabels inner = new DistanceLabels();
    private int calls = 0;

    private DistanceLabels used() {
        calls++;
        if (calls > MOST_CALLS) {
            throw new IllegalStateException("a test uses an object for more than 512 calls");
        }
        return inner;
    }

    int callsLeft() {
        return MOST_CALLS - calls;
    }

    int node() {
        return used().node();
    }

    int arc(int a, int b, int length) {
        return used().arc(a, b, length);
    }

    int lose(int a, int b) {
        return used().lose(a, b);
    }

    int rank(int v, int k) {
        return used().rank(v, k);
    }

    int ranked(int k) {
        return used().ranked(k);
    }

    int landmark(int v, boolean on) {
        return used().landmark(v, on);
    }

    int make() {
        return used().make();
    }

    int label(int side, int v, int k, int what) {
        return used().label(side, v, k, what);
    }

    int ask(int a, int b) {
        return used().ask(a, b);
    }

    int meeting(int a, int b) {
        return used().meeting(a, b);
    }

    int redone() {
        return used().redone();
    }

    int damage(int side, int v, int k, int by) {
        return used().damage(side, v, k, by);
    }

    int check() {
        return used().check();
    }

    int shortcut(int k, int what) {
        return used().shortcut(k, what);
    }

    int climb(int a, int b) {
        return used().climb(a, b);
    }

    int way(int a, int b, int i) {
        return used().way(a, b, i);
    }

    int least(int a, int b) {
        return used().least(a, b);
    }

    int most(int a, int b) {
        return used().most(a, b);
    }

    int count(int what) {
        return used().count(what);
    }
}
