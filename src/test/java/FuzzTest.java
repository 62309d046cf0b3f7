import java.util.ArrayList;
import java.util.List;
import java.util.NoSuchElementException;
import java.util.Random;

/** Runs of 512 drawn calls, good ones and wrong ones, on the class and on Model: the same answers. */
public final class FuzzTest {
    /** So many calls are left free at the end that any step has room. */
    private static final int DEAREST_STEP = 100;
    private static final long THROWS = Long.MIN_VALUE;

    private final Random random;
    private final Far x = new Far();
    private final Model m = new Model();
    private List<Long> lastRow = m.row;
    private final List<String> said = new ArrayList<>();
    /** How a run likes to deal: 0 even, 1 much is made, 2 little comes, 3 much is cut. */
    private final int mood;

    private FuzzTest(long seed) {
        random = new Random(seed);
        mood = random.nextInt(4);
    }

    public static void main(String[] args) {
        int runs = 2000;
        long steps = 0;
        for (int run = 0; run < runs; run++) {
            FuzzTest test = new FuzzTest(run);
            if (!test.begins() || !test.goesOn()) {
                System.out.println("run " + run + ":");
                for (String call : test.said) {
                    System.out.println("  " + call);
                }
                System.exit(1);
            }
            steps += test.said.size();
        }
        System.out.println("FuzzTest: " + runs + " runs, " + steps + " steps as the model's");
    }

    private boolean goesOn() {
        while (x.calls() + DEAREST_STEP < Far.MOST_CALLS) {
            if (!step()) {
                return false;
            }
        }
        return true;
    }

    /** Some days of many acts, which cost few calls, so that full LOGS and full ways are met. */
    private boolean begins() {
        int days = random.nextInt(5);
        for (int day = 0; day < days; day++) {
            StringBuilder s = new StringBuilder();
            while (s.length() <= 75) {
                s.append(act());
            }
            if (!said(s) || !same("day() of " + s, x.day(), m.day())) {
                return false;
            }
        }
        return true;
    }

    private String act() {
        int c = random.nextInt(3);
        int kind = random.nextInt(mood == 1 ? 8 : 10);
        if (kind < 5) {
            int p = parent();
            return "m" + c + (char) ('a' + random.nextInt(mood == 1 ? 4 : 12))
                + (p >= 0 && p < 14 ? Model.NODE_SIGNS.charAt(p) : '/') + random.nextInt(3);
        }
        return kind < 7 ? "g" + c : kind == 7 ? "b" + c : kind == 8 ? "x" + c : "c" + c + (c + 1 + random.nextInt(2)) % 3;
    }

    /** THE TEXT becomes a text. */
    private boolean said(CharSequence s) {
        for (int p = 0; p < s.length(); p += 4) {
            int v = 0;
            for (int k = 0; k < 4; k++) {
                v = v << 8 | (p + k < s.length() ? s.charAt(p + k) : random.nextInt(256));
            }
            if (x.sign(v) != m.sign(v)) {
                return same("sign(" + v + ")", x.count(8), m.count(8));
            }
        }
        return x.end(s.length()) == m.end(s.length());
    }

    private interface Call {
        long answer();
    }

    private static long get(Call call) {
        try {
            return call.answer();
        } catch (NoSuchElementException e) {
            return THROWS;
        }
    }

    private boolean same(String call, long got, long want) {
        said.add(call + " = " + got);
        if (got != want) {
            said.add("due is " + want);
            return false;
        }
        // each new ROW is looked at, one that stays now and then
        boolean looks = m.row != lastRow || random.nextInt(12) == 0;
        lastRow = m.row;
        return !looks || sameRow();
    }

    private boolean sameRow() {
        int numbers = x.count(7);
        if (numbers != m.count(7) || x.count(8) != m.count(8)) {
            said.add("the row or the text has another length");
            return false;
        }
        for (int i = 0; i < numbers; i++) {
            if (x.row(i) != m.row(i)) {
                said.add("row(" + i + ") is another one, due is " + m.row(i));
                return false;
            }
        }
        return true;
    }

    /** A number below n; now and then one that is none. */
    private int draw(int n) {
        if (random.nextInt(60) == 0) {
            int[] wrong = {-1, n, n + 1, Integer.MIN_VALUE, Integer.MAX_VALUE, -2, 16, 15, 32, 31};
            return wrong[random.nextInt(wrong.length)];
        }
        return random.nextInt(n);
    }

    private int folder() {
        return random.nextInt(40) == 0 ? draw(14) : 2 + random.nextInt(mood == 1 ? 4 : 12);
    }

    private int parent() {
        if (random.nextInt(4) == 0) {
            return draw(2);
        }
        return mood == 1 ? folder() : draw(14);
    }

    private boolean step() {
        int kind = random.nextInt(100);
        if (kind < (mood == 1 ? 28 : 20)) {
            int c = draw(3);
            int f = folder();
            int p = parent();
            int n = random.nextInt(3) == 0 ? draw(10) : draw(2);
            return same("makes(" + c + ", " + f + ", " + p + ", " + n + ")", x.makes(c, f, p, n), m.makes(c, f, p, n));
        }
        if (kind < 44) {
            int from = draw(3);
            int to = draw(3);
            if (mood == 2 && random.nextInt(3) > 0) {
                return same("late(" + from + ", " + to + ")", x.late(from, to), m.late(from, to));
            }
            return same("comes(" + from + ", " + to + ")", x.comes(from, to), m.comes(from, to));
        }
        int c = draw(3);
        switch (kind) {
            case 44: case 45: case 46: case 47: case 48: case 49:
                return same("gathers(" + c + ")", x.gathers(c), m.gathers(c));
            case 50: case 51:
                return same("beats(" + c + ")", x.beats(c), m.beats(c));
            case 52: case 53:
                return mood == 1 || same("cuts(" + c + ")", x.cuts(c), m.cuts(c));
            case 54: case 55: case 56: case 57:
                return text();
            case 58:
                return same("keep(" + c + ")", x.keep(c) ? 1 : 0, m.keep(c) ? 1 : 0);
            case 59:
                return random.nextInt(3) > 0 || same("again(" + c + ")", x.again(c) ? 1 : 0, m.again(c) ? 1 : 0);
            default:
                return question();
        }
    }

    private boolean text() {
        String[] acts = {"m0a/0", "m1b~1", "m2ca2", "m1ab0", "m0lk9", "b0", "b1", "b2", "c01", "c10", "c12", "c20", "c02", "g0",
            "g1", "g2", "x0", "x1", "x2", "c00", "m3", "z", "/", "~", "/0", "/1", "/0.1", "/1.1", "/0.11", "~/1", "/1.0", "/."};
        boolean path = random.nextBoolean();
        StringBuilder s = new StringBuilder();
        int parts = random.nextInt(path ? 4 : 8);
        for (int i = 0; i < parts; i++) {
            int from = path ? 23 : 0;
            int to = random.nextInt(8) == 0 ? acts.length : path ? 29 : 19;
            s.append(acts[from + random.nextInt(to - from)]);
        }
        if (!said(s)) {
            return false;
        }
        int n = random.nextInt(20) == 0 ? draw(90) : s.length();
        if (!same("end(" + n + ")", x.end(n) ? 1 : 0, m.end(n) ? 1 : 0)) {
            return false;
        }
        if (random.nextInt(20) == 0) {
            return true;
        }
        if (path) {
            int c = draw(3);
            return same("finds(" + c + ") of " + s, x.finds(c), m.finds(c));
        }
        return same("day() of " + s, x.day(), m.day());
    }

    /** Mostly a MOVE of the LOG that is VOID, if there is one. */
    private int someVoid(int copy) {
        int i = draw(20);
        if (copy < 0 || copy > 2 || random.nextInt(4) == 0) {
            return i;
        }
        int set = m.voidBits(copy) >>> i;
        return set == 0 ? i : i + Integer.numberOfTrailingZeros(set);
    }

    private boolean question() {
        int c = draw(3);
        int other = draw(3);
        int node = draw(14);
        switch (random.nextInt(24)) {
            case 0: {
                int f = folder();
                int what = draw(5);
                return same("entry(" + c + ", " + f + ", " + what + ")", get(() -> x.entry(c, f, what)),
                    get(() -> m.entry(c, f, what)));
            }
            case 1: {
                int i = draw(20);
                int what = draw(6);
                return same("move(" + c + ", " + i + ", " + what + ")", get(() -> x.move(c, i, what)),
                    get(() -> m.move(c, i, what)));
            }
            case 2:
                return same("letters(" + c + ", " + other + ")", x.letters(c, other), m.letters(c, other));
            case 3:
                return same("stable(" + c + ")", x.stable(c), m.stable(c));
            case 4:
                return same("voids(" + c + ")", x.voids(c), m.voids(c));
            case 5:
                return same("below(" + c + ", " + node + ")", x.below(c, node), m.below(c, node));
            case 6:
                return same("depth(" + c + ", " + node + ")", x.depth(c, node), m.depth(c, node));
            case 7: {
                int two = draw(14);
                return same("meets(" + c + ", " + node + ", " + two + ")", x.meets(c, node, two), m.meets(c, node, two));
            }
            case 8:
                return same("places(" + c + ", " + node + ")", x.places(c, node), m.places(c, node));
            case 9: {
                int what = draw(6);
                return same("total(" + c + ", " + node + ", " + what + ")", x.total(c, node, what), m.total(c, node, what));
            }
            case 10: {
                int how = draw(4);
                return same("lists(" + c + ", " + node + ", " + how + ")", x.lists(c, node, how), m.lists(c, node, how));
            }
            case 11:
                return same("path(" + c + ", " + node + ")", x.path(c, node), m.path(c, node));
            case 12:
                return same("apart(" + c + ", " + other + ")", x.apart(c, other), m.apart(c, other));
            case 13:
                return same("late(" + c + ", " + other + ")", x.late(c, other), m.late(c, other));
            case 14:
                return same("then(" + c + ")", x.then(c), m.then(c));
            case 15:
                return same("worst(" + c + ")", x.worst(c), m.worst(c));
            case 16: case 17: {
                int i = someVoid(c);
                return same("frees(" + c + ", " + i + ")", x.frees(c, i), m.frees(c, i));
            }
            case 18:
                return same("idle(" + c + ")", x.idle(c), m.idle(c));
            case 19:
                return same("nearest(" + c + ", " + other + ")", x.nearest(c, other), m.nearest(c, other));
            case 20: {
                int seed = random.nextInt();
                int n = draw(41);
                return same("years(" + seed + ", " + n + ")", x.years(seed, n), m.years(seed, n));
            }
            case 21: {
                int what = draw(10);
                return same("count(" + what + ")", x.count(what), m.count(what));
            }
            case 22: {
                int i = draw(13);
                return same("row(" + i + ")", get(() -> x.row(i)), get(() -> m.row(i)));
            }
            default:
                return same("total 5 of " + c, x.total(c, 0, 5), m.total(c, 0, 5));
        }
    }
}
