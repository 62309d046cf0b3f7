import java.util.NoSuchElementException;

/** What the tests share: an answer against the one that is due, texts, rows, exceptions. */
final class Check {
    private static int right = 0;
    private static int wrong = 0;

    private Check() {
    }

    interface Call {
        long answer();
    }

    static void due(String what, long got, long want) {
        if (got == want) {
            right++;
        } else {
            wrong++;
            System.out.println(what + " answered " + got + ", due is " + want);
        }
    }

    static void due(String what, boolean got, boolean want) {
        due(what, got ? 1 : 0, want ? 1 : 0);
    }

    /** The ROW, whole. */
    static void row(String what, FarFolders x, long... want) {
        due(what + ": numbers of the ROW", x.count(7), want.length);
        for (int i = 0; i < want.length && i < x.count(7); i++) {
            due(what + ": row(" + i + ")", x.row(i), want[i]);
        }
    }

    static void noSuch(String what, Call call) {
        boolean thrown = false;
        try {
            call.answer();
        } catch (NoSuchElementException e) {
            thrown = true;
        }
        due(what + " throws NoSuchElementException", thrown, true);
    }

    /** THE TEXT becomes a text. */
    static void say(FarFolders x, String text) {
        x.end(0);
        for (int p = 0; p < text.length(); p += 4) {
            int v = 0;
            for (int k = 0; k < 4; k++) {
                v = v << 8 | (p + k < text.length() ? text.charAt(p + k) & 255 : 0);
            }
            x.sign(v);
        }
        due("the text " + text + " is taken", x.end(text.length()), true);
    }

    static int day(FarFolders x, String text) {
        say(x, text);
        return x.day();
    }

    static int finds(FarFolders x, int copy, String path) {
        say(x, path);
        return x.finds(copy);
    }

    /** Does a DAY of which nothing may be refused. */
    static void doAll(FarFolders x, String... days) {
        for (String text : days) {
            day(x, text);
            due("the day " + text + " is done whole", x.row(0), 0);
        }
    }

    /** The bits of some numbers. */
    static int bits(int... numbers) {
        int set = 0;
        for (int number : numbers) {
            set |= 1 << number;
        }
        return set;
    }

    static void close(String test) {
        System.out.println(test + ": " + right + " right, " + wrong + " wrong");
        if (wrong != 0) {
            System.exit(1);
        }
    }
}
