import java.util.NoSuchElementException;
import java.util.function.IntBinaryOperator;
import java.util.function.IntUnaryOperator;
import java.util.function.Supplier;
import java.util.function.ToIntFunction;

/** What the tests share: an answer against the one that is due, rows, exceptions, wrong arguments. */
final class Check {
    static final int NONE = FarFolders.NONE;
    static final int LEAST = Integer.MIN_VALUE;
    static final int GREATEST = Integer.MAX_VALUE;
    /** What is no COPY, no NODE, no FOLDER, no NAME: the nearest ones, those that four bits would hold, the farthest. */
    static final int[] NO_COPY = {-1, 3, 4, LEAST, GREATEST};
    static final int[] NO_NODE = {-1, 14, 15, 16, 17, 18, LEAST, GREATEST};
    static final int[] NO_FOLDER = {0, 1, -1, 14, 15, 16, 18, LEAST, GREATEST};
    static final int[] NO_NAME = {-1, 10, 15, 16, LEAST, GREATEST};

    private static int right = 0;
    private static int wrong = 0;
    /** What a wrong answer is told with. */
    private static String about = "";

    private Check() {
    }

    interface Call {
        long answer();
    }

    static void about(String text) {
        about = text;
    }

    static int checks() {
        return right + wrong;
    }

    static void due(String what, long got, long want) {
        if (got == want) {
            right++;
        } else {
            fail(what + " answered " + got + ", due is " + want);
        }
    }

    static void due(String what, boolean got, boolean want) {
        due(what, got ? 1 : 0, want ? 1 : 0);
    }

    static void due(String what, String got, String want) {
        if (got.equals(want)) {
            right++;
        } else {
            fail(what + ":\n" + got + "\ndue is:\n" + want);
        }
    }

    static void fail(String what) {
        wrong++;
        System.out.println(about + what);
    }

    /** The ROW, whole. */
    static void row(String what, Far x, long... want) {
        int numbers = x.count(7);
        due(what + ": numbers of the ROW", numbers, want.length);
        for (int i = 0; i < want.length && i < numbers; i++) {
            due(what + ": row(" + i + ")", x.row(i), want[i]);
        }
    }

    /** An answer, and the ROW that is told with it. */
    static void told(String what, Far x, long got, long want, long... row) {
        due(what, got, want);
        row(what, x, row);
    }

    static void noSuch(String what, Call call) {
        boolean thrown = false;
        try {
            call.answer();
        } catch (NoSuchElementException e) {
            thrown = true;
        }
        due(what + " throws NoSuchElementException", thrown, true);
    }

    /** A call of a COPY answers NONE for what is no COPY. */
    static void noCopy(IntUnaryOperator call) {
        for (int copy : NO_COPY) {
            due("COPY " + copy, call.applyAsInt(copy), NONE);
        }
    }

    /** A call of two COPIES answers NONE if one of them is no COPY, or if they are one. */
    static void noTwoCopies(IntBinaryOperator call) {
        for (int copy : NO_COPY) {
            for (int other = 0; other < 3; other++) {
                due("first " + copy, call.applyAsInt(copy, other), NONE);
                due("second " + copy, call.applyAsInt(other, copy), NONE);
            }
            due("both " + copy, call.applyAsInt(copy, copy), NONE);
        }
        for (int copy = 0; copy < 3; copy++) {
            due("both " + copy, call.applyAsInt(copy, copy), NONE);
        }
    }

    /** A call of a COPY and a NODE answers NONE for what is no COPY or no NODE; at COPY 1 all else is fine. */
    static void noNode(String what, IntBinaryOperator call) {
        for (int copy : NO_COPY) {
            for (int node : new int[] {0, 1, 2, 13}) {
                due(what + ": COPY " + copy + ", NODE " + node, call.applyAsInt(copy, node), NONE);
            }
        }
        for (int node : NO_NODE) {
            due(what + ": NODE " + node, call.applyAsInt(1, node), NONE);
        }
    }

    /** A call answers what is due, and all that can be seen is as it is without the call, the ROW as well. */
    static void changesNothing(String what, Supplier<Far> made, ToIntFunction<Far> call, int want) {
        Far x = made.get();
        due(what, call.applyAsInt(x), want);
        due(what + " changes nothing", x.state(), made.get().state());
    }

    /** The bits of some numbers. */
    static int bits(int... numbers) {
        int set = 0;
        for (int number : numbers) {
            set |= 1 << number;
        }
        return set;
    }

    static void close(String test) {
        System.out.println(test + ": " + right + " right, " + wrong + " wrong");
        if (wrong != 0) {
            System.exit(1);
        }
    }
}
