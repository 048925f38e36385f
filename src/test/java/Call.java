/** One call told by its name and arguments, so that a test can go through all calls. */
final class Call {
    private final String name;
    private final int[] args;

    Call(String name, int... args) {
        this.name = name;
        this.args = args;
    }

    /** The same call with another number as argument i. */
    Call with(int i, int number) {
        int[] others = args.clone();
        others[i] = number;
        return new Call(name, others);
    }

    String name() {
        return name;
    }

    /** landmark()'s second argument is false for 0 and true for all other numbers. */
    int on(Watched x) {
        switch (name) {
            case "node":
                return x.node();
            case "arc":
                return x.arc(args[0], args[1], args[2]);
            case "lose":
                return x.lose(args[0], args[1]);
            case "rank":
                return x.rank(args[0], args[1]);
            case "ranked":
                return x.ranked(args[0]);
            case "landmark":
                return x.landmark(args[0], args[1] != 0);
            case "make":
                return x.make();
            case "label":
                return x.label(args[0], args[1], args[2], args[3]);
            case "ask":
                return x.ask(args[0], args[1]);
            case "meeting":
                return x.meeting(args[0], args[1]);
            case "redone":
                return x.redone();
            case "damage":
                return x.damage(args[0], args[1], args[2], args[3]);
            case "check":
                return x.check();
            case "shortcut":
                return x.shortcut(args[0], args[1]);
            case "climb":
                return x.climb(args[0], args[1]);
            case "way":
                return x.way(args[0], args[1], args[2]);
            case "least":
                return x.least(args[0], args[1]);
            case "most":
                return x.most(args[0], args[1]);
            case "count":
                return x.count(args[0]);
            default:
                throw new IllegalArgumentException(name);
        }
    }

    @Override
    public String toString() {
        StringBuilder text = new StringBuilder(name).append('(');
        for (int i = 0; i < args.length; i++) {
            text.append(i == 0 ? "" : ", ").append(args[i]);
        }
        return text.append(')').toString();
    }
}
