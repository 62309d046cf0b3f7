/** Promises 24 to 30: what would come. */
public final class ForesightTest {
    private static final int NONE = FarFolders.NONE;
    private static final int A = 2;
    private static final int B = 3;
    private static final int C = 4;
    private static final int D = 5;

    private ForesightTest() {
    }

    public static void main(String[] args) {
        late();
        lateToFullLog();
        then();
        thenOfFullLog();
        worst();
        worstOfManyOrders();
        frees();
        idle();
        nearest();
        nearestOfFew();
        nearestOfFullLogs();
        years();
        yearsOutOfFullLogs();
        drawnYears();
        Check.close("ForesightTest");
    }

    /** LOG of COPY 0 has 20, that of COPY 1 18, that of COPY 2 20; LETTERS with MOVES wait for all. */
    private static FarFolders withFullLogs() {
        FarFolders x = new FarFolders();
        for (int i = 0; i < 3; i++) {
            Check.doAll(x, "m0a/0m0a/0m0a/0m0a/0m0b/0m0b/1g1g2");
        }
        Check.doAll(x, "m1ca4m1bc5m0ab6m0d/7", "m2e/0m2ee1");
        return x;
    }

    private static void late() {
        FarFolders x = new FarFolders();
        Check.doAll(x, "m0a/0m0b/0b0m1ca0m1d/0");
        Check.due("ahead of both", x.late(0, 1), 2);
        Check.row("a comes, c is not void any more", x, Check.bits(A, C));
        Check.due("asked again", x.late(0, 1), 2);
        Check.due("nothing has come", x.letters(0, 1), 3);
        Check.due("nothing is there", x.count(4), Check.bits(D));
        Check.due("as it comes", x.comes(0, 1), 2);
        Check.row("as it comes", x, Check.bits(A, C));
        Check.due("the next", x.late(0, 1), 1);
        Check.row("the next", x, Check.bits(B));
        x.comes(0, 1);
        Check.due("a beat", x.late(0, 1), 0);
        Check.row("a beat", x, 0);
        Check.due("heard is as it was", x.stable(1), 0);
        x.comes(0, 1);
        Check.due("none waits", x.late(0, 1), -2);
        Check.due("one copy", x.late(1, 1), NONE);
        Check.due("no copy", x.late(0, 3), NONE);
        Check.due("no copy", x.late(-1, 0), NONE);
        Check.row("the row stays", x, 0);
    }

    private static void lateToFullLog() {
        FarFolders x = withFullLogs();
        Check.due("LOG of 0", x.count(0), 20);
        Check.due("it can't come", x.comes(1, 0), -3);
        // (19, 1) comes behind (19, 0) and ahead of (20, 0)
        Check.due("it is told all the same", x.late(1, 0), 1);
        Check.row("it is told all the same", x, Check.bits(C));
        Check.due("LOG stays", x.count(0), 20);
    }

    private static void then() {
        FarFolders x = new FarFolders();
        Check.due("nothing", x.then(0), 0);
        Check.row("nothing", x, -1, -1, -1, -1, -1, -1, -1, -1, -1, -1, -1, -1);
        Check.doAll(x, "m0a/0m1ba0m2l~3m1cb0m1aa0");
        Check.due("all come to 2", x.then(2), 4);
        Check.row("all come to 2", x, 0, 2, 3, -1, -1, -1, -1, -1, -1, -1, -1, 1);
        Check.due("all come to 0", x.then(0), 4);
        Check.row("all come to 0", x, 0, 2, 3, -1, -1, -1, -1, -1, -1, -1, -1, 1);
        Check.due("nothing has come", x.count(5), Check.bits(13));
        Check.due("all wait", x.count(6), 10);
        x.gathers(2);
        Check.due("none waits", x.then(2), 4);
        Check.row("none waits", x, 0, 2, 3, -1, -1, -1, -1, -1, -1, -1, -1, 1);
        Check.due("no copy", x.then(3), NONE);
        Check.due("no copy", x.then(-1), NONE);
        Check.due("the row stays", x.count(7), 12);
    }

    private static void thenOfFullLog() {
        FarFolders x = withFullLogs();
        Check.due("it can't come", x.gathers(0), -3);
        Check.due("it is told all the same", x.then(0), 5);
        // a is below b by (19, 0), c below a by (19, 1), so that b below c is void; d, e at the root
        Check.row("it is told all the same", x, 3, 0, 2, 0, 0, -1, -1, -1, -1, -1, -1, -1);
        Check.due("to 1 as well", x.then(1), 5);
        Check.row("to 1 as well", x, 3, 0, 2, 0, 0, -1, -1, -1, -1, -1, -1, -1);
        Check.due("LOG stays", x.count(0), 20);
    }

    private static void worst() {
        FarFolders x = new FarFolders();
        Check.doAll(x, "m2a/0m2b/0m0c/0m1d/0m1d/1");
        // LOG of 2: (1, 2), (2, 2); from 0 (1, 0), from 1 (1, 1), (2, 1)
        Check.due("0 last: 2 + 1 and then 4", x.worst(2), 2 + 1 + 4);
        Check.row("0 first, or at once", x, 2 + 2 + 1, 2);
        Check.due("of 0: (1, 2) (2, 2) and (1, 1) (2, 1) to (1, 0)", x.worst(0), 2 + 1);
        Check.row("of 0", x, 0, 0);
        Check.doAll(x, "g0g1g2b0b1");
        Check.due("beats alone", x.worst(2), 0);
        Check.row("beats alone", x, 0, 0);
        Check.due("from one way", x.worst(0), 0);
        x.gathers(0);
        x.voids(0);
        Check.due("none waits", x.worst(0), -2);
        Check.due("no copy", x.worst(3), NONE);
        Check.due("no copy", x.worst(-1), NONE);
        Check.row("the row stays", x, 0);
    }

    private static void worstOfManyOrders() {
        FarFolders x = withFullLogs();
        // to 0: (19, 1), (20, 1) from 1 and (19, 2), (20, 2) from 2 among (19, 0), (20, 0)
        // ways ahead: 2's first: 1 + 0, then 1's (19, 1) undoes (20, 0), (19, 2), (20, 2) and (20, 1) undoes (20, 2)
        Check.due("2's first", x.worst(0), 1 + 0 + 3 + 1);
        // 1's first: 1 + 0, then (19, 2) undoes (20, 0), (20, 1): 2; or by turns (19, 1), (19, 2), (20, 1), (20, 2)
        Check.row("by turns, at once", x, 1 + 1 + 0 + 0, 1);
        Check.due("all wait as they did", x.count(6), 2 * 4 + 4);
        FarFolders y = new FarFolders();
        Check.doAll(y, "m0a/0m0a/1m0a/2b1m1b/0m1b/1m1b/2b1b1m0a/3m0a/4b0");
        // to 2, whose LOG is empty: 0's five, then 1's three, undo most: (1, 1) 4, (2, 1) 3, (3, 1) 2
        Check.due("most of an empty LOG", y.worst(2), 9);
        Check.row("least of an empty LOG", y, 0, 0);
    }

    private static void frees() {
        FarFolders x = new FarFolders();
        Check.doAll(x, "m0a/0m0b/0m0ab1m0ba2m0cl0m0aa0");
        Check.due("a ring: without a below b, or without b at all", x.frees(0, 3), Check.bits(1, 2));
        Check.row("a ring", x, 2);
        Check.due("not there: nothing helps", x.frees(0, 4), 0);
        Check.row("not there", x, 0);
        Check.due("into itself: nothing helps", x.frees(0, 5), 0);
        Check.due("not void", x.frees(0, 2), -2);
        Check.due("no move 6", x.frees(0, 6), NONE);
        Check.due("no move -1", x.frees(0, -1), NONE);
        Check.due("no move at 1", x.frees(1, 0), NONE);
        Check.due("no copy 3", x.frees(3, 0), NONE);
        Check.due("no copy -1", x.frees(-1, 0), NONE);
        Check.row("the row stays", x, 0);
        Check.due("nothing has changed", x.voids(0), Check.bits(3, 4, 5));
        // two ways into the ring: neither alone frees it
        FarFolders y = new FarFolders();
        Check.doAll(y, "m0a/0m0b/0m0ab1m0ab2m0ba0");
        Check.due("b alone", y.frees(0, 4), Check.bits(1));
        Check.row("b alone", y, 1);
        // what was cut can't be taken away, what is left is numbered from 0
        FarFolders z = new FarFolders();
        Check.doAll(z, "m0a/0m0b/0g1g2b1b2g0", "x0m0ab1m0ba0");
        Check.due("the ring alone", z.frees(0, 1), Check.bits(0));
        Check.row("the ring alone", z, 1);
    }

    private static void idle() {
        FarFolders x = new FarFolders();
        Check.due("an empty LOG", x.idle(0), 0);
        Check.row("an empty LOG", x, 0);
        Check.doAll(x, "m0a/0m0a/0m0b/1m0b~1m0ba2m0bb0");
        // a is there by 0 or by 1; b's first two are overwritten, the last is void
        Check.due("another stamp is all the same", x.idle(0), Check.bits(0, 1, 2, 3, 5));
        Check.row("another stamp is all the same", x, 5);
        Check.due("nothing has changed", x.count(0), 6);
        Check.due("at 1", x.idle(1), 0);
        FarFolders y = new FarFolders();
        Check.doAll(y, "m0a/0m0ba0m0a/1m0b/0");
        // without the first b is at the root by the last, a by the third
        Check.due("first and second", y.idle(0), Check.bits(0, 1));
        FarFolders z = new FarFolders();
        Check.doAll(z, "m0a/0m0b/0m0ab0m0ba0m0b/0");
        // without the third b could go below a, but it comes back; a would stay at the root
        Check.due("the ring counts", z.idle(0), Check.bits(0, 3, 4));
        Check.due("no copy", z.idle(3), NONE);
        Check.due("no copy", z.idle(-1), NONE);
        Check.row("the row stays", z, 3);
    }

    private static void nearest() {
        FarFolders x = new FarFolders();
        Check.due("as they are", x.nearest(2, 1), 0);
        Check.row("as they are", x, 0, 0, 0, 0);
        Check.doAll(x, "b0m0a/0m1bb0m1c/0");
        // a has to come to 1 (2 LETTERS), c to 0 (2 LETTERS)
        Check.due("all of them", x.nearest(0, 1), 4);
        Check.row("all of them", x, 2, 2, 0, 0);
        Check.due("0 and 2: a", x.nearest(0, 2), 2);
        Check.row("0 and 2: a", x, 2, 0, 0, 0);
        Check.due("2 and 0: a", x.nearest(2, 0), 2);
        Check.row("2 and 0: a", x, 0, 2, 0, 0);
        Check.due("nothing has come", x.count(6), 8);
        Check.doAll(x, "m2d~0");
        Check.due("0 and 1 do not need it", x.nearest(0, 1), 4);
        x.comes(2, 0);
        Check.due("now it has to come to 1", x.nearest(0, 1), 5);
        Check.row("now it has to come to 1", x, 2, 2, 0, 1);
        Check.due("1 and 0", x.nearest(1, 0), 5);
        Check.row("1 and 0", x, 2, 2, 1, 0);
        Check.due("one copy", x.nearest(1, 1), NONE);
        Check.due("no copy", x.nearest(0, 3), NONE);
        Check.due("no copy", x.nearest(-1, 0), NONE);
        Check.row("the row stays", x, 2, 2, 1, 0);
    }

    private static void nearestOfFew() {
        // behind two beats a itself is farther than what 2 made of it
        FarFolders x = new FarFolders();
        Check.doAll(x, "b0b0m0a/0c02c02c02m2a~1");
        Check.due("from the third one to both", x.nearest(0, 1), 2);
        Check.row("from the third one to both", x, 0, 0, 1, 1);
        Check.due("a stamp counts", x.nearest(0, 2), 1);
        Check.row("a stamp counts", x, 0, 1, 0, 0);
        // of as few the least row: a beat and a of 1 to 0 would do as well
        FarFolders y = new FarFolders();
        Check.doAll(y, "b1m1a/1m0a/0m2a~2");
        Check.due("as few by two ways", y.nearest(0, 1), 2);
        Check.row("the least row", y, 0, 0, 1, 1);
        Check.due("as few by two ways", y.nearest(1, 0), 2);
        Check.row("the least row", y, 0, 0, 1, 1);
        Check.due("an earlier stamp changes nothing", y.nearest(0, 2), 1);
        Check.row("an earlier stamp changes nothing", y, 0, 1, 0, 0);
        // what is there by a later stamp has to come, and what stands ahead of it on its way
        FarFolders z = new FarFolders();
        Check.doAll(z, "m0a/0c01", "m1b/0c12m2b/0c20", "m1c/0");
        Check.due("c of 1 behind b of 1, and b of 2", z.nearest(0, 1), 3);
        Check.row("c of 1 behind b of 1, and b of 2", z, 0, 2, 0, 1);
    }

    private static void nearestOfFullLogs() {
        FarFolders x = withFullLogs();
        // the second one of 1 is void behind what 0 made, so that it need not come
        Check.due("all but one", x.nearest(0, 1), 3);
        Check.row("all but one", x, 2, 1, 0, 0);
        Check.due("LOG stays", x.count(0), 20);
    }

    private static void years() {
        FarFolders x = new FarFolders();
        x.letters(0, 1);
        Check.due("n 0", x.years(1, 0), NONE);
        Check.due("n -1", x.years(1, -1), NONE);
        Check.due("n 41", x.years(1, 41), NONE);
        Check.due("n of the greatest", x.years(1, Integer.MAX_VALUE), NONE);
        Check.row("the row stays", x);
        // R of seed 0 is 12345, 0 by 65536: kind 0, then as draws tell
        int r = 12345;
        Check.due("kind of seed 0", (r >>> 16) % 8, 0);
        int[] of = {3, 12, 14, 10};
        int[] drawn = new int[4];
        for (int i = 0; i < 4; i++) {
            r = r * 1103515245 + 12345;
            drawn[i] = (r >>> 16) % of[i];
        }
        FarFolders y = new FarFolders();
        y.makes(drawn[0], drawn[1] + 2, drawn[2], drawn[3]);
        Check.due("one year of seed 0", x.years(0, 1), 1);
        int other = y.count(3) ^ y.count(4);
        Check.row("one year of seed 0", x, other, y.count(5), 0, 2);
        Check.due("it is not kept", x.count(6) + x.count(0) + x.count(1) + x.count(2), 0);
    }

    private static void yearsOutOfFullLogs() {
        for (int seed = -5; seed < 60; seed++) {
            compareYears(withFullLogs(), seed * 77777, 40);
        }
    }

    private static void drawnYears() {
        for (int seed = 0; seed < 200; seed++) {
            FarFolders x = new FarFolders();
            compareYears(x, seed * 1234567, 1 + seed % 40);
            // and from there on
            compareYears(x, seed - 100, 40);
        }
    }

    /** Asks years(), then does the same by calls. */
    private static void compareYears(FarFolders x, int seed, int n) {
        int letters = x.count(6);
        long answer = x.years(seed, n);
        Check.due("nothing has come", x.count(6), letters);
        long[] told = {x.row(0), x.row(1), x.row(2), x.row(3)};
        Check.due("four numbers", x.count(7), 4);
        Draws draws = new Draws(seed);
        for (int i = 0; i < n; i++) {
            act(x, draws);
        }
        Check.due("moves of all LOGS", answer, x.count(0) + x.count(1) + x.count(2));
        x.apart(0, 1);
        Check.due("apart", told[0], x.row(0));
        Check.due("there at 2", told[1], x.count(5));
        Check.due("stable of 0", told[2], x.stable(0));
        Check.due("letters", told[3], x.count(6));
    }

    private static void act(FarFolders x, Draws draws) {
        int kind = draws.next(8);
        int one = draws.next(3);
        if (kind < 3) {
            int folder = draws.next(12) + 2;
            int parent = draws.next(14);
            int name = draws.next(10);
            x.makes(one, folder, parent, name);
        } else if (kind == 3) {
            x.beats(one);
        } else if (kind < 6) {
            int other = draws.next(3);
            x.comes(one, other);
        } else if (kind == 6) {
            x.gathers(one);
        } else {
            x.cuts(one);
        }
    }

    private static final class Draws {
        private long r;

        Draws(int seed) {
            r = seed & 0xFFFFFFFFL;
        }

        int next(int n) {
            r = (r * 1103515245L + 12345L) % (1L << 32);
            return (int) (r / 65536 % n);
        }
    }
}
