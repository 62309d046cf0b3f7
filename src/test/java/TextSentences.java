/** Promises 2, 3, 11, 21 and 22: THE TEXT, days and paths. */
final class TextSentences {
    private TextSentences() {
    }

    @Of(promise = 2, says = "Four signs come behind THE TEXT, of v the highest byte first: how many it has.")
    static void fourSigns() {
        Far x = new Far();
        Check.due("the first four", x.sign('m' << 24 | '2' << 16 | 'l' << 8 | '~'), 4);
        Check.due("four behind them", x.sign('9' << 24 | 'b' << 16 | '1' << 8 | 'b'), 8);
        Check.due("as many as it has", x.count(8), 8);
        Check.due("the last can't end", x.day(), -1 - 8);
        x.sign('m' << 24 | '2' << 16 | 'l' << 8 | '~');
        x.sign('9' << 24 | 'b' << 16 | '1' << 8 | 255);
        Check.due("the highest byte first", x.day(), -1 - 7);
        x.sign('m' << 24 | '2' << 16 | 'l' << 8 | '~');
        x.sign('9' << 24);
        x.end(5);
        Check.due("a whole day", x.day(), 1);
        Check.due("its PARENT", x.entry(2, 13, 0), 1);
        Check.due("its NAME", x.entry(2, 13, 1), 9);
        int[] any = {0, -1, Check.LEAST, Check.GREATEST};
        for (int i = 0; i < any.length; i++) {
            Check.due("any signs are signs", x.sign(any[i]), 4 * i + 4);
        }
        x.end(0);
        // a sign above 127 is none of those that can stand, whatever its lower bits are
        x.sign(('b' | 128) << 24 | '0' << 16 | 'b' << 8 | '0');
        Check.due("the highest bit", x.day(), -1);
        x.sign('b' << 24 | ('0' | 128) << 16 | 'b' << 8 | '0');
        Check.due("the highest bit of the second", x.day(), -2);
    }

    @Of(promise = 2, says = "Refused: there would be more than 80.")
    static void noMoreThan80Signs() {
        Far x = new Far();
        int x0x1 = 'x' << 24 | '0' << 16 | 'x' << 8 | '1';
        for (int i = 1; i <= 20; i++) {
            Check.due("up to 80", x.sign(x0x1), 4 * i);
        }
        Check.due("80 and 4", x.sign(x0x1), Check.NONE);
        Check.due("80 stay", x.count(8), 80);
        for (int n = 79; n > 76; n--) {
            x.end(n);
            Check.due(n + " and 4", x.sign(0), Check.NONE);
            Check.due(n + " stay", x.count(8), n);
        }
        x.end(76);
        Check.due("76 and 4", x.sign(x0x1), 80);
        Check.due("none of what was refused is there", x.day(), 40);
        Check.due("an emptied one has room", x.sign(0), 4);
    }

    @Of(promise = 3, says = "THE TEXT has its first n signs alone: true")
    static void firstSigns() {
        Far x = new Far();
        Check.due("none of none", x.end(0), true);
        x.sign('b' << 24 | '0' << 16 | 'b' << 8 | '1');
        Check.due("all of them", x.end(4), true);
        Check.due("four stay", x.count(8), 4);
        Check.due("two of them", x.end(2), true);
        Check.due("two stay", x.count(8), 2);
        Check.due("the others are gone", x.sign('x' << 24 | '0' << 16 | 'b' << 8 | '2'), 6);
        Check.due("b0, x0, b2", x.day(), 3);
        Check.due("0 has sent", x.letters(0, 1), 1);
        Check.due("1 has not", x.letters(1, 0), 0);
        Check.due("2 has sent", x.letters(2, 0), 1);
        x.sign(0);
        Check.due("none of four", x.end(0), true);
        Check.due("it is empty", x.count(8), 0);
        Check.due("an empty day", x.day(), 0);
    }

    @Of(promise = 3, says = "false if it has not so many")
    static void notSoManySigns() {
        Far x = new Far();
        Check.due("one of none", x.end(1), false);
        x.sign('b' << 24 | '0' << 16 | 'b' << 8 | '1');
        for (int n : new int[] {5, 8, 80, 81, Check.GREATEST}) {
            Check.due(n + " of 4", x.end(n), false);
            Check.due("four stay", x.count(8), 4);
        }
        x.end(3);
        Check.due("what was there once is not any more", x.end(4), false);
        Check.due("three stay", x.count(8), 3);
        Check.due("they are as they were", x.day(), -1 - 3);
    }

    @Of(promise = 3, says = "or n is below 0")
    static void belowNoSigns() {
        Far x = new Far();
        Check.due("below none", x.end(-1), false);
        x.sign('b' << 24 | '0' << 16 | 'b' << 8 | '1');
        for (int n : new int[] {-1, -4, -5, Check.LEAST}) {
            Check.due("end " + n, x.end(n), false);
            Check.due("four stay", x.count(8), 4);
        }
        Check.due("they are as they were", x.day(), 2);
    }

    @Of(promise = 11, says = "THE TEXT tells A DAY (an empty one: nothing)")
    static void emptyDay() {
        Far x = States.some();
        x.end(0);
        Check.told("an empty day", x, x.day(), 0, 0);
        Far y = States.some();
        y.end(0);
        y.voids(0);
        Check.due("nothing is done", x.state(), y.state());
        Far fresh = new Far();
        Check.told("an empty day of a new object", fresh, fresh.day(), 0, 0);
    }

    @Of(promise = 11, says = "ACTS one behind another, without signs between")
    static void actsWithoutSignsBetween() {
        Far x = new Far();
        Check.told("all kinds", x, x.day("m0a/1m1l~9m0ba0b2c01g1x0"), 7, 0);
        Check.due("THE TEXT is empty", x.count(8), 0);
        Check.due("all for 1 have come", x.letters(0, 1) + x.letters(2, 1), 0);
        Check.due("1 has a, b and l", x.count(4), Check.bits(2, 3, 13));
        String[] between = {"b0 b0", "b0,b0", "b0\nb0", "b0-b0", "b0\0b0"};
        for (String day : between) {
            Check.due("a sign between", x.day(day), -1 - 2);
        }
        Check.told("80 signs: 16 MOVES, of which 5 have room on their way", x, x.day("m2a/0".repeat(16)), 5, 1);
        Check.told("80 signs: 40 ACTS", x, x.day("x0x1".repeat(20)), 40, 0);
    }

    @Of(promise = 11, says = "m, a digit 0 .. 2 (COPY), a FOLDER (letters a .. l: 2 .. 13), "
        + "a PARENT (/: THE ROOT, ~: THE TRASH, or a letter a .. l), a digit (NAME) (makes())")
    static void actsThatMake() {
        Far x = new Far("m0a/0m1l~9m2la5");
        Check.due("a", x.move(0, 0, 2), 2);
        Check.due("/", x.move(0, 0, 3), 0);
        Check.due("0", x.move(0, 0, 4), 0);
        Check.due("l", x.move(1, 0, 2), 13);
        Check.due("~", x.move(1, 0, 3), 1);
        Check.due("9", x.move(1, 0, 4), 9);
        Check.due("l", x.move(2, 0, 2), 13);
        Check.due("a", x.move(2, 0, 3), 2);
        Check.due("5", x.move(2, 0, 4), 5);
        x.doAll("m0ll0");
        Check.due("a PARENT l, VOID and not wrong", x.move(0, 1, 3), 13);
        wrongSigns(x, "m?a/0", "/3:a9m\0");
        wrongSigns(x, "m0?/0", "`m/~0A");
        wrongSigns(x, "m0a?0", "`m}.0A!");
        wrongSigns(x, "m0a/?", "/:am~");
    }

    /** A day in which each of some signs can't stand at the place of the question mark, nor can the day end there. */
    private static void wrongSigns(Far x, String day, String signs) {
        int p = day.indexOf('?');
        for (char sign : signs.toCharArray()) {
            String wrong = day.replace('?', sign);
            Check.due("the day " + wrong, x.day(wrong), -1 - p);
        }
        Check.due("it ends at " + p, x.day(day.substring(0, p)), -1 - p);
    }

    @Of(promise = 11, says = "b and a digit 0 .. 2 (beats())")
    static void actsThatBeat() {
        Far x = new Far("b0b2b2");
        Check.due("0 has sent", x.letters(0, 1), 1);
        Check.due("1 has not", x.letters(1, 0), 0);
        Check.due("2 has sent", x.letters(2, 1), 2);
        wrongSigns(x, "b?", "/3:ab\0");
    }

    @Of(promise = 11, says = "c, a digit 0 .. 2, a digit 0 .. 2 (comes())")
    static void actsThatCome() {
        Far x = new Far("b0b0b2b2c01c20");
        Check.due("0 to 1", x.letters(0, 1), 1);
        Check.due("0 to 2", x.letters(0, 2), 2);
        Check.due("2 to 0", x.letters(2, 0), 1);
        Check.due("2 to 1", x.letters(2, 1), 2);
        wrongSigns(x, "c?1", "/3:ac\0");
        wrongSigns(x, "c0?", "/3:ac\0");
        Check.told("two that are one can stand", x, x.day("c00"), 0, 1);
    }

    @Of(promise = 11, says = "g and a digit 0 .. 2 (gathers())")
    static void actsThatGather() {
        Far x = new Far("b0b0b1b2g0g2");
        Check.due("to 0", x.letters(1, 0) + x.letters(2, 0), 0);
        Check.due("to 1", x.letters(0, 1) + x.letters(2, 1), 3);
        Check.due("to 2", x.letters(0, 2) + x.letters(1, 2), 0);
        wrongSigns(x, "g?", "/3:ag\0");
    }

    @Of(promise = 11, says = "x and a digit 0 .. 2 (cuts())")
    static void actsThatCut() {
        Far x = new Far("m0a/0g1g2b1b2g0g1g2x0x2");
        Check.due("LOG of 0", x.count(0), 0);
        Check.due("LOG of 1", x.count(1), 1);
        Check.due("LOG of 2", x.count(2), 0);
        wrongSigns(x, "x?", "/3:ax\0");
    }

    @Of(promise = 11, says = "they are done one by one, till one is refused (it answers below 0): how many were done")
    static void tillOneIsRefused() {
        String[] refused = {"c01", "c11", "g0", "g1"};
        for (String act : refused) {
            Far x = new Far();
            Check.told("the first: " + act, x, x.day(act + "m0a/0"), 0, 1);
            Check.due("what stands behind is not done", x.count(0), 0);
            Check.told("between: " + act, x, x.day("b2c20c21m2c/0c20c21b2c20c21" + act + "b2"), 9, 1);
            Check.due("what stands ahead is done", x.count(5), Check.bits(4));
            Check.due("what stands behind is not", x.letters(2, 0), 0);
        }
        Far y = new Far();
        Check.told("a seventh BEAT", y, y.day("b1b1b1b1b1b1b1m0a/0"), 6, 1);
        Check.due("none behind it", y.count(0), 0);
        Check.told("a seventh MOVE", y, y.day("m0a/0m0a/0m0a/0m0a/0m0a/0m0a/0m0a/0b2"), 6, 1);
        Far full = States.logsOf(20);
        Check.told("a 21st MOVE", full, full.day("b0m0a/0b0"), 1, 1);
        Check.told("a 21st that comes", full, full.day("b2m2a/0c21c21b0"), 3, 1);
        Check.told("what cuts nothing is done", y, y.day("x0x0x0"), 3, 0);
        Check.told("a VOID one is done", y, y.day("g1g2m0bb0"), 3, 0);
    }

    @Of(promise = 11, says = "the ROW: 1 if one was refused, else 0")
    static void rowOfADay() {
        Far x = new Far();
        Check.told("none refused, the last VOID", x, x.day("m0a/0m0aa0"), 2, 0);
        Check.told("the last refused", x, x.day("c01c01c01"), 2, 1);
        Check.told("the ROW is the day's, not its ACTS'", x, x.day("g2"), 1, 0);
        Check.told("all refused", x, x.day("g2"), 0, 1);
    }

    @Of(promise = 11, says = "-1 - p: the sign at p can't stand there")
    static void signsThatCannotStand() {
        Far x = new Far();
        String[] wrong = {"y", "M0a/0", " m0a/0", "0", "m0a/0a", "b0c01C", "b0m0a/0z", "x0x1x2m0am0"};
        int[] at = {0, 0, 0, 0, 5, 5, 7, 9};
        for (int i = 0; i < wrong.length; i++) {
            Check.due("the day " + wrong[i], x.day(wrong[i]), -1 - at[i]);
            Check.due("THE TEXT is empty", x.count(8), 0);
        }
        Check.due("the first of two", x.day("b3b3"), -1 - 1);
        Check.due("the last of 80", x.day("x0".repeat(39) + "x3"), -1 - 79);
    }

    @Of(promise = 11, says = "(its end, if it ends too early)")
    static void daysThatEndTooEarly() {
        Far x = new Far();
        String[] wrong = {"m", "m0", "m0a", "m0a/", "b", "c", "c0", "g", "x", "b0m", "m0a/0c0"};
        for (String day : wrong) {
            Check.due("the day " + day, x.day(day), -1 - day.length());
            Check.due("THE TEXT is empty", x.count(8), 0);
        }
        Check.due("it ends at 79", x.day("x0".repeat(39) + "x"), -1 - 79);
        Check.due("it ends at 80", x.day("x0".repeat(39) + "c0"), -1 - 80);
        Check.due("m ends at 80", x.day("x0".repeat(38) + "m0a/"), -1 - 80);
    }

    @Of(promise = 11, says = "nothing is done then")
    static void nothingIsDoneOfAWrongDay() {
        for (String wrong : new String[] {"m0a/0b1c10g2x0y", "m0a/0b1c10g2x0c0", "c01m0a/0b1y"}) {
            Far x = new Far();
            x.then(0);
            Check.due("it is wrong", x.day(wrong), -1 - (wrong.endsWith("y") ? wrong.length() - 1 : wrong.length()));
            Check.due("the ROW stays", x.count(7), 12);
            for (int what = 0; what < 7; what++) {
                Check.due("count " + what, x.count(what), 0);
            }
            Check.due("no TIME", x.count(9), 0);
        }
    }

    /** At COPY 0: a /1, b /1.1, c /1/2, d /1/2.1, e /1/2.1/0, f ~/7; at COPY 1 nothing. */
    private static Far withFolders() {
        return new Far("m0a/1m0b/1m0ca2m0da2m0ed0m0f~7");
    }

    @Of(promise = 21, says = "THE TEXT is a PATH: empty (THE ROOT), or ~ (THE TRASH), with or without STEPS behind it")
    static void pathsThatAreFound() {
        Far x = withFolders();
        String[] paths = {"", "~", "/1", "/1.1", "/1/2", "/1/2.1", "/1/2.1/0", "~/7"};
        for (int node = 0; node < paths.length; node++) {
            Check.due("finds '" + paths[node] + "'", x.finds(0, paths[node]), node);
            Check.due("THE TEXT is empty", x.count(8), 0);
        }
        Check.due("THE ROOT where nothing is", x.finds(1, ""), 0);
        Check.due("THE TRASH where nothing is", x.finds(2, "~"), 1);
        Check.due("what is at 0 is not at 1", x.finds(1, "/1"), -100);
        Far chain = States.chain('~');
        Check.due("twelve STEPS", chain.finds(0, "~" + "/1".repeat(12)), 13);
    }

    @Of(promise = 21, says = "/, a digit (NAME) and, if wanted, a . and a RANK "
        + "(a digit 1 .. 9 and, if wanted, one more digit; without it 0)")
    static void ranksInPaths() {
        Far x = States.flat();
        Check.due("without a RANK", x.finds(0, "/3"), 13);
        for (int rank = 1; rank < 12; rank++) {
            Check.due("RANK " + rank, x.finds(0, "/3." + rank), 13 - rank);
        }
        for (int rank : new int[] {12, 19, 20, 99}) {
            Check.due("RANK " + rank + " can stand", x.finds(0, "/3." + rank), -100);
        }
        Check.due("RANK 0 can't", x.finds(0, "/3.0"), -1 - 3);
        Check.due("nor 01", x.finds(0, "/3.01"), -1 - 3);
        Check.due("nor 100", x.finds(0, "/3.100"), -1 - 5);
        Check.due("NAME 0", new Far("m0l/0").finds(0, "/0"), 13);
        Check.due("NAME 9", new Far("m0l/9").finds(0, "/9"), 13);
        Check.due("a STEP behind a RANK", new Far("m0a/3m0b/3m0cb0").finds(0, "/3.1/0"), 4);
        Check.due("a STEP behind a RANK of two digits", x.finds(0, "/3.10/3"), -100);
    }

    @Of(promise = 21, says = "from what is there so far, that right below it with that NAME and RANK: the NODE at a COPY")
    static void rightBelowWhatIsThere() {
        Far x = withFolders();
        Check.due("not right below", x.finds(0, "/2"), -100);
        Check.due("of the first of that NAME", x.finds(0, "/1/2"), 4);
        Check.due("the second has none", x.finds(0, "/1.1/2"), -100);
        Check.due("below THE TRASH alone", x.finds(0, "/7"), -100);
        x.doAll("g1m1a~1c10");
        Check.due("b is the first now", x.finds(0, "/1"), 3);
        Check.due("a with what is below it", x.finds(0, "~/1/2.1/0"), 6);
        Check.due("at 2 nothing has come", x.finds(2, "~/1"), -100);
    }

    @Of(promise = 21, says = "-1 - p: the sign at p can't stand there")
    static void signsThatCannotStandInAPath() {
        Far x = withFolders();
        String[] wrong = {"1", " ", "a", ".1", "//1", "/a", "/:", "/.", "/~", "/1x", "/12", "/1~", "~1", "~~", "~.", "/1..1",
            "/1.a", "/1./", "/1.:", "/1.1.1", "/1.1a", "/1.12.", "/1/2x", "/1.1/2.0", "~/7a", "\0"};
        int[] at = {0, 0, 0, 0, 1, 1, 1, 1, 1, 2, 2, 2, 1, 1, 1, 3,
            3, 3, 3, 4, 4, 5, 4, 7, 3, 0};
        for (int i = 0; i < wrong.length; i++) {
            Check.due("finds '" + wrong[i] + "'", x.finds(0, wrong[i]), -1 - at[i]);
            Check.due("THE TEXT is empty", x.count(8), 0);
        }
        Check.due("behind what is not there", x.finds(0, "/9/9/x"), -1 - 5);
        Check.due("the last of 80", x.finds(0, "/1".repeat(39) + "/x"), -1 - 79);
        Check.due("at no COPY", x.finds(3, "/1x"), -1 - 2);
    }

    @Of(promise = 21, says = "(its end, if it ends too early)")
    static void pathsThatEndTooEarly() {
        Far x = withFolders();
        String[] wrong = {"/", "~/", "/1/", "/1.", "/1.1/", "/1.12/", "/1/2.", "~/7/"};
        for (String path : wrong) {
            Check.due("finds '" + path + "'", x.finds(0, path), -1 - path.length());
            Check.due("THE TEXT is empty", x.count(8), 0);
        }
        Check.due("it ends at 79", x.finds(0, "/1".repeat(39) + "/"), -1 - 79);
        Check.due("it ends at 80", x.finds(0, "/1".repeat(36) + "/1.11/1/"), -1 - 80);
    }

    @Of(promise = 21, says = "-100: there is none")
    static void noneThere() {
        Far x = withFolders();
        String[] none = {"/2", "/0", "/9", "/1.2", "/1.10", "/1/2.2", "/1/2/0", "/1/2.1/0/0", "~/1", "~/7.1", "~/7/7", "/2/1"};
        for (String path : none) {
            Check.due("finds '" + path + "'", x.finds(0, path), -100);
            Check.due("THE TEXT is empty", x.count(8), 0);
        }
        Check.due("forty STEPS", x.finds(0, "/1".repeat(40)), -100);
        Check.due("of nothing", new Far().finds(0, "/0"), -100);
    }

    @Of(promise = 21, says = "-101: no such COPY (asked ahead of -100)")
    static void findsAtNoCopy() {
        Far x = withFolders();
        for (int copy : Check.NO_COPY) {
            Check.due("there at 0", x.finds(copy, "/1"), -101);
            Check.due("none there", x.finds(copy, "/9"), -101);
            Check.due("THE ROOT", x.finds(copy, ""), -101);
            Check.due("THE TRASH", x.finds(copy, "~"), -101);
            Check.due("THE TEXT is empty", x.count(8), 0);
        }
    }

    @Of(promise = 22, says = "The PATH of a NODE at a COPY: how many signs; the ROW: they.")
    static void paths() {
        Far x = withFolders();
        Check.told("THE ROOT", x, x.path(0, 0), 0);
        Check.told("THE TRASH", x, x.path(0, 1), 1, '~');
        Check.told("THE ROOT where nothing is", x, x.path(1, 0), 0);
        Check.told("RANK 0", x, x.path(0, 2), 2, '/', '1');
        Check.told("RANK 1", x, x.path(0, 3), 4, '/', '1', '.', '1');
        Check.told("e", x, x.path(0, 6), 8, '/', '1', '/', '2', '.', '1', '/', '0');
        Check.told("in THE TRASH", x, x.path(0, 7), 3, '~', '/', '7');
        Far flat = States.flat();
        Check.told("RANK 9", flat, flat.path(0, 4), 4, '/', '3', '.', '9');
        Check.told("RANK 10", flat, flat.path(0, 3), 5, '/', '3', '.', '1', '0');
        Check.told("RANK 11", flat, flat.path(0, 2), 5, '/', '3', '.', '1', '1');
        Far chain = States.chain('~');
        Check.due("twelve STEPS", chain.path(0, 13), 25);
        Check.due("the first", chain.row(0), '~');
        Check.due("the last", chain.row(24), '1');
    }

    @Of(promise = 22, says = "-2: it is not there")
    static void pathOfWhatIsNotThere() {
        Far x = withFolders();
        Check.due("nowhere", x.path(0, 8), -2);
        Check.due("the last", x.path(0, 13), -2);
        Check.due("at 0, not at 1", x.path(1, 2), -2);
        x.doAll("m1ll0");
        Check.due("by a VOID one", x.path(1, 13), -2);
    }

    @Of(promise = 22, says = "NONE: others.")
    static void noPath() {
        Check.noNode("path", withFolders()::path);
    }
}
