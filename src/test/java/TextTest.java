/** Promises 2, 3, 11, 21, 22: THE TEXT, days and paths. */
public final class TextTest {
    private TextTest() {
    }

    public static void main(String[] args) {
        signs();
        ends();
        days();
        wrongDays();
        refusedDays();
        finding();
        wrongPaths();
        paths();
        ranksOfTwoDigits();
        Check.close("TextTest");
    }

    private static void signs() {
        FarFolders x = new FarFolders();
        for (int i = 1; i <= 20; i++) {
            Check.due("sign " + i, x.sign(0x78307830), 4 * i);
        }
        Check.due("sign beyond 80", x.sign(0), FarFolders.NONE);
        Check.due("signs of a refused one", x.count(8), 80);
        Check.due("80 signs are a day", x.day(), 40);
        Check.due("a day empties the text", x.count(8), 0);
        Check.due("sign after", x.sign(-1), 4);
        Check.due("a high sign can't stand", x.day(), -1);
        x.sign('m' << 24 | '2' << 16 | 'l' << 8 | '~');
        x.sign('9' << 24);
        x.end(5);
        Check.due("highest byte first", x.day(), 1);
        Check.due("folder 13", x.entry(2, 13, 0), 1);
        Check.due("name 9", x.entry(2, 13, 1), 9);
        for (int i = 0; i < 19; i++) {
            x.sign(0);
        }
        x.end(75);
        Check.due("75 and 4", x.sign(0), 79);
        Check.due("79 and 4", x.sign(0), FarFolders.NONE);
        x.end(77);
        Check.due("77 and 4", x.sign(0), FarFolders.NONE);
        x.end(76);
        Check.due("76 and 4", x.sign(0), 80);
    }

    private static void ends() {
        FarFolders x = new FarFolders();
        Check.due("end(0) of nothing", x.end(0), true);
        Check.due("end(1) of nothing", x.end(1), false);
        Check.due("end(-1)", x.end(-1), false);
        x.sign(0x62306231);
        Check.due("end(5) of 4", x.end(5), false);
        Check.due("signs after it", x.count(8), 4);
        Check.due("end(4) of 4", x.end(4), true);
        Check.due("end below all", x.end(Integer.MIN_VALUE), false);
        Check.due("end above all", x.end(Integer.MAX_VALUE), false);
        Check.due("end(2)", x.end(2), true);
        Check.due("signs", x.count(8), 2);
        Check.due("end(3) when two are left", x.end(3), false);
        Check.due("day of b0", x.day(), 1);
        Check.due("0 has sent", x.letters(0, 1), 1);
        Check.due("1 has not", x.letters(1, 0), 0);
    }

    private static void days() {
        FarFolders x = new FarFolders();
        Check.due("an empty day", x.day(), 0);
        Check.row("an empty day", x, 0);
        Check.due("all acts", Check.day(x, "m0a/1m1l~9m0ba0b2c01g1x0"), 7);
        Check.row("all acts", x, 0);
        Check.due("a", x.entry(0, 2, 0), 0);
        Check.due("a's name", x.entry(0, 2, 1), 1);
        Check.due("b below a", x.entry(0, 3, 0), 2);
        Check.due("l in the trash", x.entry(1, 13, 0), 1);
        Check.due("l's name", x.entry(1, 13, 1), 9);
        Check.due("all for 1 have come", x.letters(0, 1) + x.letters(2, 1), 0);
        Check.due("1 has a and b", x.count(4), Check.bits(2, 3, 13));
        Check.due("the text is empty", x.count(8), 0);
        Check.due("a move below itself is void, not wrong", Check.day(x, "m0cc0"), 1);
        Check.due("it is void", x.voids(0), Check.bits(2));
        FarFolders y = new FarFolders();
        Check.due("a day that cuts", Check.day(y, "m0a/0c01c02b2c21x1"), 6);
        Check.due("LOG of 1 is cut", y.count(1), 0);
        Check.due("LOG of 2 is not", y.count(2), 1);
        Check.due("a is there", y.count(4), Check.bits(2));
    }

    private static void wrongDays() {
        FarFolders x = new FarFolders();
        String[] wrong = {"y", "M0a/0", "m", "m3a/0", "m0", "m0m/0", "m0/a0", "m0~a0", "m0a", "m0am0", "m0a.0", "m0a/",
            "m0a/:", "m0a//", "b", "b3", "b/", "c", "c3", "c0", "c03", "c0/", "g", "g3", "x", "x3", "b0 ", "b0m0a/0z",
            "b0c0", "m0a/0m0`", "m0a`"};
        int[] at = {0, 0, 1, 1, 2, 2, 2, 2, 3, 3, 3, 4,
            4, 4, 1, 1, 1, 1, 1, 2, 2, 2, 1, 1, 1, 1, 2, 7,
            4, 7, 3};
        for (int i = 0; i < wrong.length; i++) {
            x.apart(0, 1);
            Check.due("the wrong day " + wrong[i], Check.day(x, wrong[i]), -1 - at[i]);
            Check.row("the wrong day " + wrong[i], x, 0);
            Check.due("the text behind it", x.count(8), 0);
        }
        Check.due("nothing was done", x.count(6) + x.count(9) + x.count(3), 0);
        StringBuilder long80 = new StringBuilder();
        for (int i = 0; i < 39; i++) {
            long80.append("x0");
        }
        Check.due("ends at 79", Check.day(x, long80 + "x"), -1 - 79);
        Check.due("ends at 80", Check.day(x, long80 + "c0"), -1 - 80);
    }

    private static void refusedDays() {
        FarFolders x = new FarFolders();
        Check.due("c of one copy is refused, not wrong", Check.day(x, "b0c11b1"), 1);
        Check.row("c11", x, 1);
        Check.due("what stood behind it is not done", x.letters(1, 0), 0);
        Check.due("no letter", Check.day(x, "c10"), 0);
        Check.row("no letter", x, 1);
        Check.due("g of none", Check.day(x, "m0a/0g0m0b/0"), 1);
        Check.row("g of none", x, 1);
        Check.due("what was done stays", x.count(3), Check.bits(2));
        Check.due("the seventh letter", Check.day(x, "b1b1b1b1b1b1b1b1"), 6);
        Check.row("the seventh letter", x, 1);
    }

    private static FarFolders withFolders() {
        FarFolders x = new FarFolders();
        // a /1, b /1.1, c /1/2, d /1/2.1, e /1/2.1/0, f ~/7
        Check.doAll(x, "m0a/1m0b/1m0ca2m0da2m0ed0m0f~7");
        return x;
    }

    private static void finding() {
        FarFolders x = withFolders();
        String[] paths = {"", "~", "/1", "/1.1", "/1/2", "/1/2.1", "/1/2.1/0", "~/7"};
        int[] nodes = {0, 1, 2, 3, 4, 5, 6, 7};
        x.below(0, 0);
        for (int i = 0; i < paths.length; i++) {
            Check.due("finds " + paths[i], Check.finds(x, 0, paths[i]), nodes[i]);
            Check.due("the text behind it", x.count(8), 0);
            Check.due("path back", x.path(0, nodes[i]), paths[i].length());
            for (int p = 0; p < paths[i].length(); p++) {
                Check.due("path " + paths[i] + " at " + p, x.row(p), paths[i].charAt(p));
            }
        }
        String[] none = {"/2", "/1.2", "/1/2.2", "/1/2/0", "/7", "~/1", "~/7.1", "/1.1/2", "/1/2.1/0/0", "/1.10", "/2/1"};
        for (String path : none) {
            Check.due("finds " + path, Check.finds(x, 0, path), -100);
            Check.due("the text behind it", x.count(8), 0);
        }
        Check.due("at another copy", Check.finds(x, 1, "/1"), -100);
        Check.due("the root at another copy", Check.finds(x, 2, ""), 0);
        x.below(0, 0);
        Check.finds(x, 0, "/1");
        Check.row("finds leaves the row", x, 5);
    }

    private static void wrongPaths() {
        FarFolders x = withFolders();
        String[] wrong = {"1", "/", "/a", "//1", "/1/", "/1.", "/1.0", "/1.a", "/1.01", "/1.123", "/1x", "/12", "~1", "~~",
            "~/", "/1~", "/1..1", "/1.1.1", "/1.1/", ".1", "/:", "/1.:", " ", "/9/9/9/", "/1.1a",
            "/1/2.", "~/2/a", "/1.1/2.0"};
        int[] at = {0, 1, 1, 1, 3, 3, 3, 3, 3, 5, 2, 2, 1, 1,
            2, 2, 3, 4, 5, 0, 1, 3, 0, 7, 4,
            5, 4, 7};
        x.apart(0, 1);
        for (int i = 0; i < wrong.length; i++) {
            Check.due("finds " + wrong[i], Check.finds(x, 0, wrong[i]), -1 - at[i]);
            Check.due("finds " + wrong[i] + " at no copy", Check.finds(x, 3, wrong[i]), -1 - at[i]);
            Check.due("the text behind it", x.count(8), 0);
        }
        Check.due("no copy", Check.finds(x, 3, "/1"), -101);
        Check.due("no copy, none there", Check.finds(x, -1, "/9"), -101);
        Check.due("no copy, root", Check.finds(x, 3, ""), -101);
        Check.due("the text behind it", x.count(8), 0);
        StringBuilder forty = new StringBuilder();
        for (int i = 0; i < 40; i++) {
            forty.append("/1");
        }
        Check.due("40 steps", Check.finds(x, 0, forty.toString()), -100);
        forty.setLength(79);
        Check.due("ends at 79", Check.finds(x, 0, forty.toString()), -1 - 79);
    }

    private static void paths() {
        FarFolders x = withFolders();
        Check.due("path of the root", x.path(0, 0), 0);
        Check.row("path of the root", x);
        Check.due("path of the trash", x.path(0, 1), 1);
        Check.row("path of the trash", x, '~');
        Check.due("path of e", x.path(0, 6), 8);
        Check.row("path of e", x, '/', '1', '/', '2', '.', '1', '/', '0');
        Check.due("path of f", x.path(0, 7), 3);
        Check.row("path of f", x, '~', '/', '7');
        Check.due("not there", x.path(0, 8), -2);
        Check.due("not there at 1", x.path(1, 2), -2);
        Check.due("no node", x.path(0, 14), FarFolders.NONE);
        Check.due("no node", x.path(0, -1), FarFolders.NONE);
        Check.due("no copy", x.path(3, 0), FarFolders.NONE);
        Check.due("no copy", x.path(-1, 13), FarFolders.NONE);
        Check.row("the row stays", x, '~', '/', '7');
    }

    /** Twelve FOLDERS of one NAME in one place: RANK 0 .. 11. */
    private static void ranksOfTwoDigits() {
        FarFolders x = new FarFolders();
        Check.doAll(x, "m0l/3m0k/3m0j/3m0i/3m0h/3m0g/3", "g1g2", "m0f/3m0e/3m0d/3m0c/3m0b/3m0a/3");
        for (int folder = 2; folder < 14; folder++) {
            Check.due("rank of " + folder, x.entry(0, folder, 2), 13 - folder);
        }
        Check.due("path of rank 11", x.path(0, 2), 5);
        Check.row("path of rank 11", x, '/', '3', '.', '1', '1');
        Check.due("path of rank 10", x.path(0, 3), 5);
        Check.row("path of rank 10", x, '/', '3', '.', '1', '0');
        Check.due("path of rank 9", x.path(0, 4), 4);
        Check.row("path of rank 9", x, '/', '3', '.', '9');
        Check.due("finds rank 11", Check.finds(x, 0, "/3.11"), 2);
        Check.due("finds rank 10", Check.finds(x, 0, "/3.10"), 3);
        Check.due("finds rank 1", Check.finds(x, 0, "/3.1"), 12);
        Check.due("finds no rank 12", Check.finds(x, 0, "/3.12"), -100);
    }
}
