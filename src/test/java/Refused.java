import java.util.ArrayList;
import java.util.List;
import java.util.function.Supplier;
import java.util.function.ToIntFunction;

/** A call that is refused, of what state, and what it answers. */
record Refused(String name, Supplier<Far> state, ToIntFunction<Far> call, int due) {

    /** Each call with each argument that is none, in a state where all else is fine. */
    static List<Refused> wrongArguments() {
        List<Refused> all = new ArrayList<>();
        for (int c : Check.NO_COPY) {
            addOfCopies(all, c);
            addOfNodes(all, c, 0);
            add(all, "places at " + c, x -> x.places(c, 2));
            add(all, "makes at " + c, x -> x.makes(c, 2, 0, 0));
        }
        for (int n : Check.NO_NODE) {
            addOfNodes(all, 0, n);
            add(all, "meets of 0 and " + n, x -> x.meets(0, 0, n));
            add(all, "makes to " + n, x -> x.makes(0, 2, n, 0));
        }
        for (int f : Check.NO_FOLDER) {
            add(all, "places of " + f, x -> x.places(0, f));
            add(all, "makes of " + f, x -> x.makes(0, f, 0, 0));
        }
        for (int n : Check.NO_NAME) {
            add(all, "makes with name " + n, x -> x.makes(0, 2, 0, n));
        }
        for (int c = 0; c < 3; c++) {
            addOfTwo(all, c, c);
        }
        return all;
    }

    private static void add(List<Refused> all, String name, ToIntFunction<Far> call) {
        all.add(new Refused(name, States::some, call, Check.NONE));
    }

    private static void addOfCopies(List<Refused> all, int c) {
        add(all, "beats(" + c + ")", x -> x.beats(c));
        add(all, "gathers(" + c + ")", x -> x.gathers(c));
        add(all, "cuts(" + c + ")", x -> x.cuts(c));
        add(all, "stable(" + c + ")", x -> x.stable(c));
        add(all, "voids(" + c + ")", x -> x.voids(c));
        add(all, "then(" + c + ")", x -> x.then(c));
        add(all, "worst(" + c + ")", x -> x.worst(c));
        add(all, "frees(" + c + ", 0)", x -> x.frees(c, 0));
        add(all, "idle(" + c + ")", x -> x.idle(c));
        for (int k = 0; k < 3; k++) {
            addOfTwo(all, c, k);
            addOfTwo(all, k, c);
        }
        addOfTwo(all, c, c);
    }

    private static void addOfTwo(List<Refused> all, int a, int b) {
        String of = "(" + a + ", " + b + ")";
        add(all, "comes" + of, x -> x.comes(a, b));
        add(all, "letters" + of, x -> x.letters(a, b));
        add(all, "apart" + of, x -> x.apart(a, b));
        add(all, "late" + of, x -> x.late(a, b));
        add(all, "nearest" + of, x -> x.nearest(a, b));
    }

    private static void addOfNodes(List<Refused> all, int c, int n) {
        String of = " of " + n + " at " + c;
        add(all, "below" + of, x -> x.below(c, n));
        add(all, "depth" + of, x -> x.depth(c, n));
        add(all, "path" + of, x -> x.path(c, n));
        add(all, "meets" + of, x -> x.meets(c, n, 0));
        for (int k = 0; k < 6; k++) {
            int what = k;
            add(all, "total " + what + of, x -> x.total(c, n, what));
        }
        for (int k = 0; k < 4; k++) {
            int how = k;
            add(all, "lists " + how + of, x -> x.lists(c, n, how));
        }
    }

    /** What else is refused with NONE, in a state where all else is fine. */
    static List<Refused> otherNones() {
        List<Refused> all = new ArrayList<>();
        for (int what : new int[] {-1, 6, Check.LEAST, Check.GREATEST}) {
            add(all, "total " + what, x -> x.total(0, 2, what));
        }
        for (int how : new int[] {-1, 4, Check.LEAST, Check.GREATEST}) {
            add(all, "lists " + how, x -> x.lists(0, 2, how));
        }
        for (int i : new int[] {-1, 2, 20, 32, Check.LEAST, Check.GREATEST}) {
            add(all, "frees(1, " + i + ")", x -> x.frees(1, i));
        }
        for (int n : new int[] {0, -1, 41, Check.LEAST, Check.GREATEST}) {
            add(all, "years of " + n, x -> x.years(1, n));
        }
        for (int what : new int[] {-1, 10, Check.LEAST, Check.GREATEST}) {
            add(all, "count of " + what, x -> x.count(what));
        }
        return all;
    }

    /** Each other answer below 0 that a call has which does not read THE TEXT. */
    static List<Refused> otherAnswers() {
        List<Refused> all = new ArrayList<>();
        for (int k = 0; k < 3; k++) {
            int c = k;
            int next = (k + 1) % 3;
            all.add(new Refused("a full LOG: makes at " + c, States::fullLogs, x -> x.makes(c, 2, 0, 0), -2));
            all.add(new Refused("a full LOG: comes to " + c, States::fullLogs, x -> x.comes(next, c), -3));
            all.add(new Refused("a full LOG: gathers at " + c, States::fullLogs, x -> x.gathers(c), -3));
        }
        addFullWays(all, "makes", x -> x.makes(0, 2, 0, 0), -3);
        addFullWays(all, "beats", x -> x.beats(0), -3);
        addFullWays(all, "comes", x -> x.comes(1, 0), -2);
        addFullWays(all, "gathers", x -> x.gathers(0), -2);
        addFullWays(all, "below", x -> x.below(0, 3), -2);
        addFullWays(all, "depth", x -> x.depth(0, 3), -2);
        addFullWays(all, "path", x -> x.path(0, 3), -2);
        addFullWays(all, "meets, -2", x -> x.meets(0, 2, 3), -2);
        addFullWays(all, "meets, -3", x -> x.meets(0, 2, 1), -3);
        addFullWays(all, "late", x -> x.late(1, 0), -2);
        addFullWays(all, "worst", x -> x.worst(0), -2);
        addFullWays(all, "frees", x -> x.frees(0, 0), -2);
        for (int k = 0; k < 6; k++) {
            int what = k;
            addFullWays(all, "total " + what, x -> x.total(0, 3, what), -2);
        }
        for (int k = 0; k < 4; k++) {
            int how = k;
            addFullWays(all, "lists " + how, x -> x.lists(0, 3, how), -2);
        }
        return all;
    }

    private static void addFullWays(List<Refused> all, String name, ToIntFunction<Far> call, int due) {
        all.add(new Refused(name, States::fullWays, call, due));
    }

    /** Each answer below 0 of the two calls that read THE TEXT. */
    static List<Refused> ofTheText() {
        List<Refused> all = new ArrayList<>();
        all.add(new Refused("day of a wrong sign", States::some, x -> x.day("m0e/0y"), -6));
        all.add(new Refused("day that ends too early", States::some, x -> x.day("m0e/0m"), -7));
        all.add(new Refused("finds of a wrong sign", States::some, x -> x.finds(0, "/1a"), -3));
        all.add(new Refused("finds of a path that ends too early", States::some, x -> x.finds(0, "/1/"), -4));
        all.add(new Refused("finds of none", States::some, x -> x.finds(0, "/9"), -100));
        all.add(new Refused("finds at no copy", States::some, x -> x.finds(3, "/1"), -101));
        return all;
    }
}
