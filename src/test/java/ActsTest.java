/** Promises 1, 4 to 10, 12 to 14 and 31 to 34: what is done, and what is told of it. */
public final class ActsTest {
    private static final int NONE = FarFolders.NONE;

    private ActsTest() {
    }

    public static void main(String[] args) {
        newObject();
        entries();
        ranks();
        moves();
        making();
        voidMoves();
        makingTooMuch();
        beating();
        coming();
        comingToFullLog();
        gathering();
        gatheringTooMuch();
        cutting();
        cutMovesStay();
        letters();
        stable();
        voids();
        keeping();
        keepingAll();
        counting();
        rows();
        Check.close("ActsTest");
    }

    private static void newObject() {
        FarFolders x = new FarFolders();
        for (int what = 0; what < 10; what++) {
            Check.due("new count(" + what + ")", x.count(what), 0);
        }
        for (int from = 0; from < 3; from++) {
            Check.due("new stable", x.stable(from), 0);
            Check.row("new stable", x, 0, 0);
            for (int to = 0; to < 3; to++) {
                Check.due("new letters", x.letters(from, to), from == to ? NONE : 0);
            }
        }
        Check.due("nothing kept", x.again(0) || x.again(1), false);
        Check.due("NONE", FarFolders.NONE, -1);
    }

    private static void entries() {
        FarFolders x = new FarFolders();
        Check.doAll(x, "m1a/4m1ba9", "g2", "m2l~0");
        int[] ofA = {0, 4, 0, 1, 1};
        int[] ofB = {2, 9, 0, 2, 1};
        int[] ofL = {1, 0, 0, 3, 2};
        for (int what = 0; what < 5; what++) {
            Check.due("a at 1", x.entry(1, 2, what), ofA[what]);
            Check.due("a at 2", x.entry(2, 2, what), ofA[what]);
            Check.due("b at 2", x.entry(2, 3, what), ofB[what]);
            Check.due("l at 2", x.entry(2, 13, what), ofL[what]);
        }
        Check.noSuch("not there at 0", () -> x.entry(0, 2, 0));
        Check.noSuch("not there at 1", () -> x.entry(1, 13, 0));
        Check.noSuch("the root", () -> x.entry(1, 0, 0));
        Check.noSuch("the trash", () -> x.entry(1, 1, 0));
        Check.noSuch("no folder 14", () -> x.entry(1, 14, 0));
        Check.noSuch("no folder 18", () -> x.entry(1, 18, 0));
        Check.noSuch("no folder -1", () -> x.entry(1, -1, 0));
        Check.noSuch("no copy 3", () -> x.entry(3, 2, 0));
        Check.noSuch("no copy -1", () -> x.entry(-1, 2, 0));
        Check.noSuch("what 5", () -> x.entry(1, 2, 5));
        Check.noSuch("what -1", () -> x.entry(1, 2, -1));
    }

    private static void ranks() {
        FarFolders x = new FarFolders();
        Check.doAll(x, "m0c/1m0b/1m0a/1m0d/2m0e~1");
        int[] due = {2, 1, 0, 0, 0};
        for (int i = 0; i < due.length; i++) {
            Check.due("rank of " + (i + 2), x.entry(0, i + 2, 2), due[i]);
        }
        Check.doAll(x, "g1g2m0c/1");
        Check.due("c comes last now", x.entry(0, 4, 2), 2);
        Check.due("b is first", x.entry(0, 3, 2), 0);
        Check.due("a is second", x.entry(0, 2, 2), 1);
        FarFolders y = new FarFolders();
        Check.doAll(y, "m1a/1m0b/1m2c/1g0g1g2");
        for (int copy = 0; copy < 3; copy++) {
            Check.due("of one time by copy: b", y.entry(copy, 3, 2), 0);
            Check.due("of one time by copy: a", y.entry(copy, 2, 2), 1);
            Check.due("of one time by copy: c", y.entry(copy, 4, 2), 2);
        }
    }

    private static void moves() {
        FarFolders x = new FarFolders();
        Check.doAll(x, "m2l~9m0kk3m1b/0g1");
        // all of TIME 1, so by COPY
        int[][] due = {{1, 0, 12, 12, 3, 1}, {1, 1, 3, 0, 0, 0}, {1, 2, 13, 1, 9, 0}};
        for (int i = 0; i < 3; i++) {
            for (int what = 0; what < 6; what++) {
                Check.due("move(1, " + i + ", " + what + ")", x.move(1, i, what), due[i][what]);
            }
        }
        Check.due("at 2 its own", x.move(2, 0, 2), 13);
        Check.noSuch("no move 3", () -> x.move(1, 3, 0));
        Check.noSuch("no move 1 at 2", () -> x.move(2, 1, 0));
        Check.noSuch("no move -1", () -> x.move(1, -1, 0));
        Check.noSuch("no move 32", () -> x.move(1, 32, 0));
        Check.noSuch("what 6", () -> x.move(1, 0, 6));
        Check.noSuch("what -1", () -> x.move(1, 0, -1));
        Check.noSuch("no copy 3", () -> x.move(3, 0, 0));
        Check.noSuch("no copy -1", () -> x.move(-1, 0, 0));
    }

    private static void making() {
        FarFolders x = new FarFolders();
        Check.due("first", x.makes(0, 2, 0, 9), 1);
        Check.row("first", x, 0);
        Check.due("second", x.makes(0, 13, 2, 0), 2);
        Check.due("at another copy", x.makes(2, 13, 1, 0), 1);
        Check.due("to 1", x.letters(0, 1), 2);
        Check.due("to 2", x.letters(0, 2), 2);
        Check.due("from 2 to 0", x.letters(2, 0), 1);
        Check.due("from 2 to 1", x.letters(2, 1), 1);
        Check.due("there at 0", x.count(3), Check.bits(2, 13));
        Check.due("there at 1", x.count(4), 0);
        Check.due("there at 2", x.count(5), Check.bits(13));
        Check.due("TIME goes on from what came", x.comes(0, 2) + x.comes(0, 2) + x.makes(2, 3, 0, 0), 1 + 0 + 3);
        x.voids(0);
        int[][] wrong = {{3, 2, 0, 0}, {-1, 2, 0, 0}, {0, 1, 0, 0}, {0, 0, 0, 0}, {0, 14, 0, 0}, {0, -1, 0, 0}, {0, 2, 14, 0},
            {0, 2, -1, 0}, {0, 2, 0, 10}, {0, 2, 0, -1}, {0, 18, 0, 0}, {0, 2, 16, 0}};
        for (int[] w : wrong) {
            Check.due("wrong makes", x.makes(w[0], w[1], w[2], w[3]), NONE);
        }
        Check.due("nothing made", x.count(0), 2);
        Check.due("no time passed", x.count(9), 3);
        Check.row("the row stays", x, 0);
    }

    private static void voidMoves() {
        FarFolders x = new FarFolders();
        Check.due("into itself", x.makes(0, 2, 2, 0), 1);
        Check.row("into itself", x, 1);
        Check.due("into what is not there", x.makes(0, 2, 3, 0), 2);
        Check.row("into what is not there", x, 1);
        Check.due("nothing is there", x.count(3), 0);
        Check.due("void ones go as letters", x.letters(0, 1), 2);
        Check.due("void ones are in the LOG", x.count(0), 2);
        Check.doAll(x, "m0a/0m0ba0m0cb0g1g2");
        Check.due("a ring of three", x.makes(0, 2, 4, 5), 6);
        Check.row("a ring of three", x, 1);
        Check.due("a ring of two", x.makes(0, 3, 4, 5), 7);
        Check.row("a ring of two", x, 1);
        Check.due("a is where it was", x.entry(0, 2, 0), 0);
        Check.due("up is no ring", x.makes(0, 4, 2, 5), 8);
        Check.row("up is no ring", x, 0);
        Check.due("where it is, with another name", x.makes(0, 4, 2, 6), 9);
        Check.row("where it is", x, 0);
        Check.due("its name", x.entry(0, 4, 1), 6);
        Check.due("its time", x.entry(0, 4, 3), 9);
        Check.due("the voids", x.voids(0), Check.bits(0, 1, 5, 6));
    }

    private static void makingTooMuch() {
        FarFolders x = new FarFolders();
        Check.doAll(x, "m0a/0m0a/0m0a/0m0a/0m0a/0");
        Check.due("the sixth", x.makes(0, 2, 0, 0), 6);
        Check.due("the seventh", x.makes(0, 2, 0, 0), -3);
        Check.due("a void seventh", x.makes(0, 2, 2, 0), -3);
        Check.doAll(x, "g1");
        Check.due("one way is still full", x.makes(0, 2, 0, 0), -3);
        Check.due("NONE comes ahead", x.makes(0, 2, 0, 10), NONE);
        Check.due("no time passed", x.stable(0), 0);
        Check.row("no time passed", x, 6, 0);
        Check.doAll(x, "c02");
        Check.due("both have room", x.makes(0, 2, 0, 0), 7);
        Check.doAll(x, "g1g2m0a/0m0a/0m0a/0m0a/0m0a/0m0a/0", "g1g2m0a/0m0a/0m0a/0m0a/0m0a/0m0a/0");
        Check.due("19 in the LOG", x.count(0), 19);
        Check.doAll(x, "c01c02");
        Check.due("the 20th", x.makes(0, 2, 0, 0), 20);
        Check.due("LOG and ways are full", x.makes(0, 2, 0, 0), -2);
        Check.doAll(x, "c01c02c01c02");
        Check.due("the LOG is full", x.makes(0, 2, 0, 0), -2);
        Check.due("NONE comes ahead of it", x.makes(0, 1, 0, 0), NONE);
        Check.due("a beat goes", x.beats(0), 20);
        Check.due("20 in the LOG", x.count(0), 20);
    }

    private static void beating() {
        FarFolders x = new FarFolders();
        x.apart(0, 1);
        Check.due("the first", x.beats(1), 0);
        Check.due("to 0", x.letters(1, 0), 1);
        Check.row("TIME of it", x, 0);
        Check.due("to 2", x.letters(1, 2), 1);
        x.makes(1, 2, 0, 0);
        Check.due("a beat takes no time", x.beats(1), 1);
        Check.due("nor the next", x.beats(1), 1);
        Check.due("to 0", x.letters(1, 0), 4);
        Check.row("TIMES", x, 0, 1, 1, 1);
        Check.due("no move of it", x.count(1), 1);
        Check.doAll(x, "b1b1");
        x.letters(1, 0);
        Check.due("six wait", x.beats(1), -3);
        Check.row("the row stays", x, 0, 1, 1, 1, 1, 1);
        x.gathers(2);
        Check.due("six wait on one way", x.beats(1), -3);
        x.gathers(0);
        Check.due("none waits", x.beats(1), 1);
        Check.due("no copy 3", x.beats(3), NONE);
        Check.due("no copy -1", x.beats(-1), NONE);
    }

    private static void coming() {
        FarFolders x = new FarFolders();
        Check.doAll(x, "m0a/0m0b/1", "m1c/0m1ac1m1d~0");
        Check.due("ahead of all", x.comes(0, 1), 3);
        // MOVE a/0 of COPY 0 (TIME 1) is the first, c/0 the next; a lies in c after it
        Check.row("c and d stay, a is as it was", x, 0);
        Check.due("between", x.comes(0, 1), 2);
        Check.row("b is new", x, Check.bits(3));
        Check.due("order of stamps", x.move(1, 2, 2), 3);
        Check.due("time stays the greater", x.stable(1), 0);
        Check.row("time stays the greater", x, 3, 0);
        Check.due("by its stamp at 0", x.comes(1, 0), 1);
        Check.row("c is new", x, Check.bits(4));
        Check.due("of one time the greater copy", x.comes(1, 0), 0);
        Check.row("a has another entry", x, Check.bits(2));
        Check.due("the last", x.comes(1, 0), 0);
        Check.due("no more", x.comes(1, 0), -2);
        Check.due("no such", x.comes(1, 1), NONE);
        Check.due("no such", x.comes(0, 3), NONE);
        Check.due("no such", x.comes(-1, 0), NONE);
        Check.due("not apart", x.apart(0, 1), 0);
        x.beats(0);
        x.voids(1);
        Check.due("a beat undoes nothing", x.comes(0, 1), 0);
        Check.row("a beat changes no tree", x, 0);
        Check.due("time by a letter", x.stable(0), 0);
        Check.row("time by a letter", x, 3, 0);
        // a ring across copies: the later stamp is void at both, and the entry of an undone MOVE goes
        FarFolders y = new FarFolders();
        Check.doAll(y, "m0a/0m0b/0g1g2m1ab5m0ba5");
        Check.due("the earlier comes late", y.comes(0, 1), 1);
        Check.row("both change", y, Check.bits(2, 3));
        Check.due("a is back", y.entry(1, 2, 0), 0);
        Check.due("a's own time again", y.entry(1, 2, 3), 1);
        Check.due("the other is void", y.voids(1), Check.bits(3));
        Check.due("the later comes", y.comes(1, 0), 0);
        Check.row("nothing changes", y, 0);
    }

    /** LOG of COPY 0 and of COPY 1 has 20, LOG of COPY 2 has 18. */
    private static FarFolders withFullLogs() {
        FarFolders x = new FarFolders();
        for (int i = 0; i < 3; i++) {
            Check.doAll(x, "m0a/0m0a/0m0a/0m0a/0m0a/0m0a/0g1g2");
        }
        Check.doAll(x, "m0a/0m0a/0g1");
        return x;
    }

    private static void comingToFullLog() {
        FarFolders x = withFullLogs();
        Check.due("LOG of 1", x.count(1), 20);
        Check.doAll(x, "m2b/0b0");
        x.apart(1, 2);
        Check.row("apart", x, Check.bits(2, 3));
        Check.due("a move to a full LOG", x.comes(2, 1), -3);
        Check.row("the row stays", x, Check.bits(2, 3));
        Check.due("it still waits", x.letters(2, 1), 1);
        Check.due("a beat to a full LOG", x.comes(0, 1), 0);
        Check.due("none waits to a full LOG", x.comes(0, 1), -2);
        Check.due("the 19th and more", x.comes(0, 2), 1);
        Check.due("LOG of 2", x.count(2), 20);
        Check.due("the 21st", x.comes(0, 2), -3);
    }

    private static void gathering() {
        FarFolders x = new FarFolders();
        Check.doAll(x, "m0a/0m1b/0m0ca0m2db0m2e/0b1");
        Check.due("all for 2", x.gathers(2), 4);
        // LOG of 2 was d (1, 2), e (2, 2); the least that comes is a (1, 0)
        Check.row("all for 2", x, 2, Check.bits(2, 3, 4, 5));
        Check.due("d was void ahead of it, now it is not", x.voids(2), 0);
        Check.due("five moves", x.count(2), 5);
        Check.due("none left", x.letters(0, 2) + x.letters(1, 2), 0);
        Check.due("others wait", x.count(6), 8);
        Check.due("heard of both", x.stable(2), 1);
        Check.row("heard of both", x, 2, 3);
        Check.due("none waits", x.gathers(2), -2);
        Check.due("no copy", x.gathers(3), NONE);
        Check.due("no copy", x.gathers(-1), NONE);
        Check.row("the row stays", x, 2, 3);
        FarFolders y = new FarFolders();
        Check.doAll(y, "m0a/0m0b/0m1c/0b2g1");
        Check.due("between", y.count(1), 3);
        Check.doAll(y, "b0b2");
        Check.due("beats alone", y.gathers(1), 2);
        Check.row("beats alone", y, 0, 0);
        Check.doAll(y, "m2a~0m0d/0m1e/0");
        // LOG of 1 was a (1, 0), c (1, 1), b (2, 0), e (3, 1); a (1, 2) and d (3, 0) come
        Check.due("from both ways", y.gathers(1), 2);
        Check.row("by the least of all that come", y, 2, Check.bits(2, 5));
        for (int copy = 0; copy < 3; copy++) {
            FarFolders z = new FarFolders();
            Check.doAll(z, "m0a/0m1b/0m2c/0");
            Check.due("two of one TIME", z.gathers(copy), 2);
            Check.row("ahead of what the greater COPY made", z, copy == 0 ? 0 : 1, Check.bits(2, 3, 4) & ~(4 << copy));
        }
    }

    private static void gatheringTooMuch() {
        FarFolders x = withFullLogs();
        Check.due("up to 20", x.gathers(2), 2);
        Check.due("20", x.count(2), 20);
        x.beats(0);
        Check.due("a beat to a full LOG", x.gathers(2), 1);
        FarFolders y = withFullLogs();
        Check.doAll(y, "m2b/0");
        y.letters(0, 2);
        Check.row("two wait", y, 19, 20);
        Check.due("there would be 21", y.gathers(2), -3);
        Check.row("the row stays", y, 19, 20);
        Check.due("none has come", y.letters(0, 2), 2);
        Check.due("none is in the LOG", y.count(2), 19);
        Check.due("NONE", y.gathers(4), NONE);
        y.comes(0, 2);
        Check.due("a full LOG", y.gathers(2), -3);
        Check.due("none waits for 0 but b", y.gathers(0), -3);
    }

    private static void cutting() {
        FarFolders x = new FarFolders();
        Check.doAll(x, "m0a/0m0b/0m0c/0g1m1d/0g2b2");
        Check.due("2 heard 0 and 1", x.stable(2), 3);
        Check.row("2 heard 0 and 1", x, 4, 3);
        x.voids(1);
        Check.due("those of TIME at most 3", x.cuts(2), 3);
        Check.row("the row stays", x, 0);
        Check.due("one stays", x.count(2), 1);
        Check.due("it is the last", x.move(2, 0, 2), 5);
        Check.due("no more to cut", x.cuts(2), 0);
        Check.due("0 has not heard of 1", x.cuts(0), 0);
        Check.due("all are there", x.count(5), Check.bits(2, 3, 4, 5));
        Check.due("time of an entry that was cut", x.entry(2, 4, 3), 3);
        Check.due("no copy 3", x.cuts(3), NONE);
        Check.due("no copy -1", x.cuts(-1), NONE);
        Check.doAll(x, "c10c20");
        Check.due("heard of both", x.stable(0), 4);
        Check.due("TIME as STABLE is cut, too", x.cuts(0), 4);
        Check.due("LOG is empty", x.count(0), 0);
    }

    private static void cutMovesStay() {
        FarFolders x = new FarFolders();
        // the first is void, and stays so when it is cut
        Check.doAll(x, "m0ab0m0b/0m0ca0g1g2b1b2g0");
        Check.due("three", x.cuts(0), 3);
        Check.due("b alone is there", x.count(3), Check.bits(3));
        Check.doAll(x, "m0a/0m0cc0m0ba3");
        Check.due("void ones are numbered anew", x.voids(0), Check.bits(1));
        Check.due("void", x.move(0, 1, 5), 1);
        Check.due("not void", x.move(0, 2, 5), 0);
        Check.doAll(x, "g1m1ba4c10");
        Check.due("built on what was cut", x.entry(0, 3, 0), 2);
        Check.due("void ones", x.voids(0), Check.bits(1));
        Check.due("a ring with what was cut", x.makes(0, 2, 3, 0), 8);
        Check.row("a ring with what was cut", x, 1);
    }

    private static void letters() {
        FarFolders x = new FarFolders();
        Check.doAll(x, "m0a/0b0m0a/1m0a/2b0m0a/3");
        Check.due("six", x.letters(0, 1), 6);
        Check.row("six", x, 1, 1, 2, 3, 3, 4);
        Check.doAll(x, "c01c01");
        Check.due("four", x.letters(0, 1), 4);
        Check.row("four", x, 2, 3, 3, 4);
        Check.due("six to 2", x.letters(0, 2), 6);
        Check.due("none back", x.letters(1, 0), 0);
        Check.row("none back", x);
        x.letters(0, 1);
        Check.due("one copy", x.letters(1, 1), NONE);
        Check.due("no copy 3", x.letters(0, 3), NONE);
        Check.due("no copy -1", x.letters(-1, 0), NONE);
        Check.row("the row stays", x, 2, 3, 3, 4);
    }

    private static void stable() {
        FarFolders x = new FarFolders();
        Check.doAll(x, "m0a/0m0b/0m1c/0b1c02c12");
        Check.due("the lesser", x.stable(2), 1);
        Check.row("TIME 1, a and c", x, 1, 2);
        Check.doAll(x, "c02");
        Check.due("of 1 still 1", x.stable(2), 1);
        Check.row("b is not yet", x, 2, 2);
        Check.due("own moves are none of it", x.stable(0), 0);
        Check.row("own", x, 2, 0);
        Check.doAll(x, "m2d/0g0");
        Check.due("heard 1 and 3", x.stable(0), 1);
        Check.row("its TIME by what came", x, 3, 2);
        Check.due("no copy", x.stable(3), NONE);
        Check.due("no copy", x.stable(-1), NONE);
        Check.row("the row stays", x, 3, 2);
    }

    private static void voids() {
        FarFolders x = new FarFolders();
        Check.due("none", x.voids(1), 0);
        Check.row("none", x, 0);
        Check.doAll(x, "m1bc0m1c/0m1cc0m1bc0m1cb0");
        Check.due("three", x.voids(1), Check.bits(0, 2, 4));
        Check.row("three", x, 3);
        Check.doAll(x, "m0c/0c01");
        // c/0 of COPY 0 (TIME 1, COPY 0) stands ahead of all: the first is not void any more
        Check.due("numbers move up", x.voids(1), Check.bits(3, 5));
        Check.row("numbers move up", x, 2);
        Check.due("at another copy", x.voids(0), 0);
        x.voids(1);
        Check.due("no copy", x.voids(3), NONE);
        Check.due("no copy", x.voids(-1), NONE);
        Check.row("the row stays", x, 2);
    }

    private static void keeping() {
        FarFolders x = new FarFolders();
        Check.due("keep(2)", x.keep(2), false);
        Check.due("keep(-1)", x.keep(-1), false);
        Check.due("again(0) of nothing", x.again(0), false);
        Check.doAll(x, "m0a/0");
        Check.due("keep(1)", x.keep(1), true);
        Check.due("again(0) still of nothing", x.again(0), false);
        Check.due("again(2)", x.again(2), false);
        Check.due("again(-1)", x.again(-1), false);
        Check.doAll(x, "m0b/0");
        Check.due("keep(0)", x.keep(0), true);
        Check.doAll(x, "m0c/0");
        Check.due("again(1)", x.again(1), true);
        Check.due("a alone", x.count(3), Check.bits(2));
        Check.due("again(0)", x.again(0), true);
        Check.due("a and b", x.count(3), Check.bits(2, 3));
        Check.doAll(x, "m0d/0");
        Check.due("again(0) once more", x.again(0), true);
        Check.due("what was kept is as it was", x.count(3), Check.bits(2, 3));
        Check.doAll(x, "m0e/0");
        Check.due("kept anew", x.keep(0), true);
        Check.doAll(x, "m0f/0");
        x.again(0);
        Check.due("a, b and e", x.count(3), Check.bits(2, 3, 6));
    }

    private static void keepingAll() {
        FarFolders x = new FarFolders();
        Check.doAll(x, "m0a/0m0ba1m1c~2g2b2c20m0aa0");
        x.cuts(2);
        x.keep(0);
        Check.doAll(x, "g0g1g2b0b1b2g0g1g2", "x0x1x2m0c/3m1a/4m2lb0");
        x.letters(0, 1);
        x.sign(0x62306230);
        Check.due("again", x.again(0), true);
        Check.row("the row is not kept", x, 4);
        Check.due("nor the text", x.count(8), 4);
        Check.due("there at 0", x.count(3), Check.bits(2, 3));
        Check.due("there at 1", x.count(4), Check.bits(4));
        Check.due("there at 2", x.count(5), Check.bits(2, 3, 4));
        Check.due("LOG of 0", x.count(0), 3);
        Check.due("LOG of 1", x.count(1), 1);
        Check.due("LOG of 2", x.count(2), 1);
        Check.due("void at 0", x.voids(0), Check.bits(2));
        Check.due("stable of 2", x.stable(2), 1);
        Check.row("stable of 2", x, 2, 0);
        Check.due("stable of 0", x.stable(0), 0);
        Check.row("stable of 0", x, 3, 0);
        Check.due("letters from 0 to 1", x.letters(0, 1), 3);
        Check.row("letters from 0 to 1", x, 1, 2, 3);
        Check.due("letters from 0 to 2", x.letters(0, 2), 1);
        Check.due("letters from 1 to 0", x.letters(1, 0), 1);
        Check.due("letters from 2 to 1", x.letters(2, 1), 1);
        Check.due("letters from 2 to 0", x.letters(2, 0), 0);
        Check.due("letters from 1 to 2", x.letters(1, 2), 0);
        Check.due("a comes from below c no more", x.entry(2, 3, 0), 2);
        Check.due("it goes on from there", x.makes(1, 5, 4, 0), 2);
        x.again(0);
        Check.due("and once more", x.makes(1, 5, 4, 0), 2);
        FarFolders y = new FarFolders();
        y.keep(1);
        Check.doAll(y, "m0a/0g1g2b1b2g0x0");
        y.keep(0);
        y.again(1);
        Check.doAll(y, "m1b/0c10");
        Check.due("what was cut since is gone", y.count(3), Check.bits(3));
        y.again(0);
        Check.doAll(y, "m1ba0c10");
        Check.due("what had been cut is there", y.count(3), Check.bits(2, 3));
    }

    private static void counting() {
        FarFolders x = new FarFolders();
        Check.doAll(x, "m0a/0m0b/0m0cc0c01c01c02b1m1d/0");
        x.sign(0);
        x.letters(0, 2);
        int[] due = {3, 3, 1, Check.bits(2, 3), Check.bits(2, 3, 5), Check.bits(2), 1 + 2 + 2 + 2, 2, 4, 3};
        for (int what = 0; what < due.length; what++) {
            Check.due("count(" + what + ")", x.count(what), due[what]);
        }
        Check.due("count(10)", x.count(10), NONE);
        Check.due("count(-1)", x.count(-1), NONE);
        Check.due("count of the least", x.count(Integer.MIN_VALUE), NONE);
        Check.due("count of the greatest", x.count(Integer.MAX_VALUE), NONE);
        Check.doAll(x, "m1d/0");
        Check.due("the greatest TIME is 1's", x.count(9), 4);
        Check.doAll(x, "g2m2d/0");
        Check.due("the greatest TIME is 2's", x.count(9), 5);
    }

    private static void rows() {
        FarFolders x = new FarFolders();
        Check.noSuch("an empty row", () -> x.row(0));
        x.then(0);
        Check.due("the first", x.row(0), -1);
        Check.due("the last", x.row(11), -1);
        Check.noSuch("behind the last", () -> x.row(12));
        Check.noSuch("ahead of the first", () -> x.row(-1));
        Check.noSuch("far behind", () -> x.row(Integer.MAX_VALUE));
        x.letters(0, 1);
        Check.noSuch("a row without numbers", () -> x.row(0));
    }
}
