/** Promises 24 to 30: what would come. */
final class ForesightSentences {
    private static final int A = 2;
    private static final int B = 3;
    private static final int C = 4;
    private static final int D = 5;

    private ForesightSentences() {
    }

    @Of(promise = 24, says = "What comes() would tell: how many MOVES would be UNDONE; the ROW: as comes().")
    static void late() {
        Far x = new Far("m0a/0m0b/0b0m1ca0m1d/0");
        int[][] due = {{2, Check.bits(A, C)}, {1, Check.bits(B)}, {0, 0}};
        for (int[] d : due) {
            Check.told("late", x, x.late(0, 1), d[0], d[1]);
            Check.told("asked again", x, x.late(0, 1), d[0], d[1]);
            Check.told("as comes()", x, x.comes(0, 1), d[0], d[1]);
        }
        Check.due("a and d come, c is not VOID any more", x.count(4), Check.bits(A, B, C, D));
        // of each way, in a state with something cut
        for (int from = 0; from < 3; from++) {
            for (int to = 0; to < 3; to++) {
                Far y = States.some();
                int told = y.late(from, to);
                long row = y.row(0);
                Check.due("from " + from + " to " + to, y.comes(from, to), told);
                Check.due("its ROW", y.row(0), told < 0 ? 1 : row);
            }
        }
    }

    @Of(promise = 24, says = "-2: none waits")
    static void lateOfNoLetter() {
        Far x = new Far("b0");
        Check.due("back", x.late(1, 0), -2);
        Check.due("one waits", x.late(0, 1), 0);
        x.doAll("c01");
        Check.due("no more", x.late(0, 1), -2);
        Check.due("to a full LOG", States.logsOf(20).late(1, 0), -2);
    }

    @Of(promise = 24, says = "NONE: others.")
    static void lateOfNone() {
        Check.noTwoCopies(new Far("b0b1b2")::late);
        Check.noTwoCopies(new Far()::late);
    }

    @Of(promise = 24, says = "(A full LOG is all the same.)")
    static void lateToAFullLog() {
        Far x = States.fullLogs();
        Check.due("it can't come", x.comes(1, 0), -3);
        // (19, 1) comes behind (19, 0) and ahead of (20, 0)
        Check.told("it is told", x, x.late(1, 0), 1, Check.bits(C));
        Check.told("from the other", x, x.late(2, 0), 1, Check.bits(6));
        Check.due("LOG stays", x.count(0), 20);
        Check.due("it waits", x.letters(1, 0), 2);
    }

    @Of(promise = 25, says = "If all LETTERS that wait for a COPY came")
    static void thenAllCome() {
        Far x = new Far("m0a/0m1ba0m2l~3m1cb0m1aa0");
        for (int copy = 0; copy < 3; copy++) {
            Check.told("all come to " + copy, x, x.then(copy), 4, 0, 2, 3, -1, -1, -1, -1, -1, -1, -1, -1, 1);
        }
        Check.due("none has come", x.count(6), 10);
        Check.due("nothing is other", x.count(5), Check.bits(13));
        x.doAll("g2");
        Check.told("none waits", x, x.then(2), 4, 0, 2, 3, -1, -1, -1, -1, -1, -1, -1, -1, 1);
        Check.due("as it is", x.count(5), Check.bits(A, B, C, 13));
        // later ones become VOID, or are not any more
        Far y = new Far("m0a/0m0b/0g1g2m1ab0m0ba0");
        Check.told("the later one of a ring", y, y.then(1), 2, 0, 2, -1, -1, -1, -1, -1, -1, -1, -1, -1, -1);
        Far some = States.some();
        some.then(0);
        long[] row = new long[12];
        for (int i = 0; i < 12; i++) {
            row[i] = some.row(i);
        }
        some.doAll("g0");
        for (int i = 0; i < 12; i++) {
            int folder = i + 2;
            boolean there = (some.count(3) >> folder & 1) == 1;
            Check.due("as gathers() does", row[i], there ? some.entry(0, folder, 0) : -1);
        }
    }

    @Of(promise = 25, says = "(a full LOG is all the same)")
    static void thenWithAFullLog() {
        Far x = States.fullLogs();
        Check.due("they can't come", x.gathers(0), -3);
        for (int copy = 0; copy < 3; copy++) {
            // a to b (19, 0), c to a (19, 1), e (19, 2), d (20, 0); b to c (20, 1) is VOID, and e into itself (20, 2)
            Check.told("to " + copy, x, x.then(copy), 5, 3, 0, 2, 0, 0, -1, -1, -1, -1, -1, -1, -1);
        }
        Check.due("LOG stays", x.count(0), 20);
        // 20 in the LOG, and twelve MOVES that wait: none is left out
        Far y = mostMoves();
        Check.due("20", y.count(0), 20);
        Check.due("twelve wait", y.letters(1, 0) + y.letters(2, 0), 12);
        Check.told("all of them", y, y.then(0), 12, 0, 0, 0, 0, 0, 0, 0, 0, 0, 0, 0, 0);
    }

    /** LOG of COPY 0 has 20 MOVES of k, and twelve MOVES wait for it, of all FOLDERS but k; l comes twice. */
    private static Far mostMoves() {
        Far x = new Far("m2k/0m2k/0m2k/0m2k/0m2k/0m2k/0g0g1", "m2k/0m2k/0m2k/0m2k/0m2k/0m2k/0g0g1", "m2k/0m2k/0g0g1");
        x.doAll("m2a/0m2b/0m2c/0m2d/0m2e/0m2f/0", "m1g/0m1h/0m1i/0m1j/0m1l/0m1l/1", "m0k/1m0k/1m0k/1m0k/1m0k/1m0k/1");
        return x;
    }

    @Of(promise = 25, says = "how many FOLDERS would be there; the ROW: of FOLDERS 2 .. 13 PARENT")
    static void rowOfThen() {
        Far x = States.chain('~');
        Check.told("all twelve", x, x.then(0), 12, 1, 2, 3, 4, 5, 6, 7, 8, 9, 10, 11, 12);
        Check.told("all twelve at 1", x, x.then(1), 12, 1, 2, 3, 4, 5, 6, 7, 8, 9, 10, 11, 12);
        Far flat = States.flat();
        Check.told("all at THE ROOT", flat, flat.then(2), 12, 0, 0, 0, 0, 0, 0, 0, 0, 0, 0, 0, 0);
    }

    @Of(promise = 25, says = "(NONE: it is not there)")
    static void thenNotThere() {
        Far x = new Far();
        Check.told("nothing", x, x.then(0), 0, -1, -1, -1, -1, -1, -1, -1, -1, -1, -1, -1, -1);
        x.doAll("m1aa0m1l/0");
        Check.told("a VOID one", x, x.then(0), 1, -1, -1, -1, -1, -1, -1, -1, -1, -1, -1, -1, 0);
    }

    @Of(promise = 25, says = "NONE: no such.")
    static void thenOfNone() {
        Check.noCopy(new Far("b0b1b2")::then);
    }

    @Of(promise = 26, says = "LETTERS that wait for a COPY come one by one, from either way as one likes: "
        + "how many MOVES are UNDONE at most, all together")
    static void worst() {
        // LOG of 2: (1, 2), (2, 2); from 0 (1, 0), from 1 (1, 1), (2, 1)
        Far x = new Far("m2a/0m2b/0m0c/0m1d/0m1d/1");
        Check.due("1's first: 2 and 1, then 4", x.worst(2), 2 + 1 + 4);
        Check.due("of 0: 2's first, then 1's (1, 1) undoes both, (2, 1) one", x.worst(0), 2 + 1);
        // LOG of 2 is empty: 0's five, then 1's three: (1, 1) undoes 4, (2, 1) 3, (3, 1) 2
        Far y = new Far("m0a/0m0a/1m0a/2b1m1b/0m1b/1m1b/2b1b1m0a/3m0a/4b0");
        Check.due("of an empty LOG", y.worst(2), 9);
        Far one = new Far("m0a/0m0a/0m0a/0m2b/0m2b/0");
        Check.due("one way alone: (1, 0) undoes 2, (2, 0) 1", one.worst(2), 3);
        Far beats = new Far("m2a/0b0b1");
        Check.due("BEATS alone", beats.worst(2), 0);
    }

    @Of(promise = 26, says = "(a full LOG is all the same")
    static void worstWithAFullLog() {
        // to 0, whose LOG ends with (19, 0), (20, 0): (19, 1), (20, 1) and (19, 2), (20, 2)
        Far x = States.fullLogs();
        // 2's first: 1 and 0; then (19, 1) undoes (20, 0), (19, 2), (20, 2), and (20, 1) undoes (20, 2)
        Check.due("at most", x.worst(0), 1 + 0 + 3 + 1);
        // by turns (19, 1) 1, (19, 2) 1, (20, 1) 0, (20, 2) 0
        Check.row("at least, at once", x, 2, 1);
        Check.due("none has come", x.letters(1, 0) + x.letters(2, 0), 4);
        Check.due("LOG stays", x.count(0), 20);
        // TIME 15 to 20 of all three: 2's first undo 5 to 0 of 0's; then (15, 1) undoes 5 of 0's and 6 of 2's, and so on
        Far y = mostMoves();
        Check.due("twelve to 20", y.worst(0), 15 + 11 + 9 + 7 + 5 + 3 + 1);
        // by turns: (15, 1) and (15, 2) 5 each, and so on
        Check.row("at least, at once", y, 2 * 15, 5);
    }

    @Of(promise = 26, says = "a MOVE may be UNDONE more than once)")
    static void undoneMoreThanOnce() {
        Far x = new Far("m2a/0m0b/0m1c/0");
        // (1, 1) undoes (1, 2), then (1, 0) undoes (1, 1) and (1, 2)
        Check.told("(1, 2) is UNDONE twice", x, x.worst(2), 3, 2, 1);
    }

    @Of(promise = 26, says = "how many; the ROW: how many at least, how many by gathers()")
    static void rowOfWorst() {
        Far x = new Far("m2a/0m2b/0m0c/0m1d/0m1d/1");
        x.worst(2);
        Check.row("0's first: 2, then 2 and 1", x, 2 + 2 + 1, 2);
        x.gathers(2);
        Check.due("as gathers()", x.row(0), 2);
        Far y = new Far("m0a/0m0a/1m0a/2m1b/0m1b/1m1b/2");
        Check.told("all in their order: none", y, y.worst(2), 3 + 2 + 1, 0, 0);
        Far beats = new Far("m2a/0b0b1");
        beats.worst(2);
        Check.row("BEATS alone", beats, 0, 0);
    }

    @Of(promise = 26, says = "-2: none waits")
    static void worstOfNoLetter() {
        Far x = new Far("b0");
        Check.due("for 0", x.worst(0), -2);
        Check.due("for 1", x.worst(1), 0);
        x.doAll("g1");
        Check.due("for 1 any more", x.worst(1), -2);
    }

    @Of(promise = 26, says = "NONE: no such.")
    static void worstOfNone() {
        Check.noCopy(new Far("b0b1b2")::worst);
        Check.noCopy(new Far()::worst);
    }

    @Of(promise = 27, says = "MOVES of the LOG of a COPY each of which, were it alone not there, "
        + "would let MOVE i of the LOG not be VOID")
    static void frees() {
        Far x = new Far("m0a/0m0b/0m0ab1m0ba2m0cl0m0aa0");
        Check.due("a ring: without b at all, or without a in b", x.frees(0, 3), Check.bits(1, 2));
        Check.due("to what is not there: none", x.frees(0, 4), 0);
        Check.due("into itself: none", x.frees(0, 5), 0);
        Check.due("nothing is other", x.voids(0), Check.bits(3, 4, 5));
        Far y = new Far("m0a/0m0b/0m0ab1m0ab2m0ba0");
        Check.due("twice into the ring: neither of them alone", y.frees(0, 4), Check.bits(1));
        Far cut = new Far("m0a/0m0b/0g1g2b1b2g0", "x0m0ab1m0ba0");
        Check.due("of what was cut none", cut.frees(0, 1), Check.bits(0));
        Far late = new Far("m0ba0m0a/0m0b/0m0ba1m0ab0m0b/0");
        Check.due("what stands behind frees nothing", late.frees(0, 0), 0);
        Check.due("without b in a, or without a, which lets b stay out of it", late.frees(0, 4), Check.bits(1, 3));
    }

    @Of(promise = 27, says = "(bits; i itself is none of them): they")
    static void freesAreBits() {
        Far x = States.logsOf(17);
        x.doAll("m0b/0m0ab0m0ba0");
        Check.due("of 20: b's first, and a in b", x.frees(0, 19), Check.bits(17, 18));
        Check.due("i itself is VOID", x.voids(0), Check.bits(19));
    }

    @Of(promise = 27, says = "the ROW: how many")
    static void howManyFree() {
        Far x = new Far("m0a/0m0b/0m0ab1m0ba2m0cl0");
        x.frees(0, 3);
        Check.row("two", x, 2);
        x.frees(0, 4);
        Check.row("none", x, 0);
    }

    @Of(promise = 27, says = "-2: it is not VOID")
    static void freesOfWhatIsNotVoid() {
        Far x = new Far("m0a/0m0aa0m0b/0");
        Check.due("the first", x.frees(0, 0), -2);
        Check.due("the last", x.frees(0, 2), -2);
        Check.due("a VOID one", x.frees(0, 1), 0);
        Check.due("the last of 20", States.logsOf(20).frees(0, 19), -2);
    }

    @Of(promise = 27, says = "NONE: others.")
    static void freesOfNone() {
        Far x = new Far("m0aa0m0aa0");
        for (int i : new int[] {-1, 2, 19, 20, 31, 32, 33, Check.LEAST, Check.GREATEST}) {
            Check.due("MOVE " + i, x.frees(0, i), Check.NONE);
            Check.due("MOVE " + i + " of none", x.frees(1, i), Check.NONE);
        }
        Check.due("MOVE 0 of none", x.frees(1, 0), Check.NONE);
        Check.noCopy(copy -> x.frees(copy, 0));
        Check.due("MOVE 20 of 20", States.logsOf(20).frees(0, 20), Check.NONE);
    }

    @Of(promise = 28, says = "MOVES of the LOG of a COPY each of which, were it alone not there, "
        + "would leave the tree of FOLDERS (who is there, PARENT, NAME) as it is: they (bits)")
    static void idle() {
        Far x = new Far();
        Check.due("of none", x.idle(0), 0);
        x.doAll("m0a/0m0a/0m0b/1m0b~1m0ba2m0bb0");
        // a is there by 0 or by 1; b's first two are done over; the last is VOID
        Check.due("a STAMP is all the same", x.idle(0), Check.bits(0, 1, 2, 3, 5));
        Check.due("at 1", x.idle(1), 0);
        Far name = new Far("m0a/0m0a/1");
        Check.due("a NAME is not", name.idle(0), Check.bits(0));
        Far parent = new Far("m0a/0m0a~0");
        Check.due("a PARENT is not", parent.idle(0), Check.bits(0));
        Far ring = new Far("m0a/0m0b/0m0ab0m0ba0m0b/0");
        // without the third a would stay at THE ROOT; without the second a could not go to b
        Check.due("a ring", ring.idle(0), Check.bits(0, 3, 4));
        Far cut = new Far("m0a/0g1g2b1b2g0x0m0a/0m0b/0");
        Check.due("what was cut stays", cut.idle(0), Check.bits(0));
    }

    @Of(promise = 28, says = "the ROW: how many")
    static void howManyAreIdle() {
        Far x = new Far();
        x.idle(2);
        Check.row("none", x, 0);
        Far full = States.logsOf(20);
        Check.told("all of 20 that make one FOLDER", full, full.idle(0), (1 << 20) - 1, 20);
        Far flat = States.flat();
        Check.told("none of twelve", flat, flat.idle(0), 0, 0);
    }

    @Of(promise = 28, says = "NONE: no such.")
    static void idleOfNone() {
        Check.noCopy(new Far("m0aa0")::idle);
    }

    @Of(promise = 29, says = "The fewest COPIES' LETTERS: how many LETTERS at least have to come, all together, "
        + "till the trees of two COPIES are not apart()")
    static void nearest() {
        Far x = new Far();
        Check.told("as they are", x, x.nearest(2, 1), 0, 0, 0, 0, 0);
        x.doAll("b0m0a/0m1bb0m1c/0");
        Check.told("0 and 1: all of their own", x, x.nearest(0, 1), 4, 2, 2, 0, 0);
        Check.told("0 and 2: a", x, x.nearest(0, 2), 2, 2, 0, 0, 0);
        Check.told("2 and 0: a", x, x.nearest(2, 0), 2, 0, 2, 0, 0);
        Check.due("none has come", x.count(6), 8);
        Far stamp = new Far("m0a/0m1a/0");
        Check.told("another STAMP alone", stamp, stamp.nearest(0, 1), 1, 0, 1, 0, 0);
        Far beats = new Far("b0b1b2m0aa0");
        Check.told("nothing but BEATS and a VOID one waits", beats, beats.nearest(0, 1), 0, 0, 0, 0, 0);
        // behind six BEATS and so on: all that can wait
        Far most = new Far("b0b0b0b0b0m0a/0b1b1b1b1b1m1b/0");
        Check.told("six and six", most, most.nearest(0, 1), 12, 6, 6, 0, 0);
    }

    @Of(promise = 29, says = "(LETTERS between these two, and from the third one, in the order of their ways")
    static void nearestByTheThird() {
        // behind two BEATS a of 0 is farther than what 2 made of it
        Far x = new Far("b0b0m0a/0c02c02c02m2a~1");
        Check.told("from the third one to both", x, x.nearest(0, 1), 2, 0, 0, 1, 1);
        Check.told("from the second", x, x.nearest(0, 2), 1, 0, 1, 0, 0);
        // c of 1 stands behind b of 1 on its way, and b of 2 has to come to 1
        Far y = new Far("m0a/0c01", "m1b/0c12m2b/0c20", "m1c/0");
        Check.told("in the order of their ways", y, y.nearest(0, 1), 3, 0, 2, 0, 1);
        // what waits for the third one is none of it
        Far z = new Far("m0a/0m1a/1c01c10");
        Check.told("they are one, 2 is not", z, z.nearest(0, 1), 0, 0, 0, 0, 0);
        Check.due("it waits for 2", z.letters(0, 2) + z.letters(1, 2), 2);
    }

    @Of(promise = 29, says = "a full LOG is all the same): how many")
    static void nearestWithFullLogs() {
        Far x = States.fullLogs();
        // b to c (20, 1) is VOID behind what 0 made, so that it need not come
        Check.told("all but one", x, x.nearest(0, 1), 3, 2, 1, 0, 0);
        Check.told("the other way round", x, x.nearest(1, 0), 3, 1, 2, 0, 0);
        Check.due("LOGS stay", x.count(0) + x.count(1) + x.count(2), 60);
    }

    @Of(promise = 29, says = "the ROW: how many of them from the first to the second, from the second to the first, "
        + "from the third to the first, to the second")
    static void rowOfNearest() {
        for (int one = 0; one < 3; one++) {
            for (int other = 0; other < 3; other++) {
                if (one == other) {
                    continue;
                }
                int third = 3 - one - other;
                Far x = new Far();
                x.beats(one);
                x.makes(one, A, 0, 0);
                x.makes(other, B, 0, 0);
                Check.told("of two alone", x, x.nearest(one, other), 3, 2, 1, 0, 0);
                x.makes(third, C, 0, 0);
                x.makes(third, D, 0, 0);
                x.keep(0);
                x.comes(third, one);
                Check.told("to the second one", x, x.nearest(one, other), 4, 2, 1, 0, 1);
                x.comes(third, one);
                Check.told("both to the second one", x, x.nearest(one, other), 5, 2, 1, 0, 2);
                x.again(0);
                x.comes(third, other);
                Check.told("to the first one", x, x.nearest(one, other), 4, 2, 1, 1, 0);
            }
        }
    }

    @Of(promise = 29, says = "(of as few the least row)")
    static void leastRowOfNearest() {
        // a of 2, the latest, to both of them; or a BEAT and a of 1 to 0
        Far x = new Far("b1m1a/1m0a/0m2a~2");
        Check.told("by its second number", x, x.nearest(0, 1), 2, 0, 0, 1, 1);
        Check.told("by its first number", x, x.nearest(1, 0), 2, 0, 0, 1, 1);
        // all four of 2 to 0, but b to a is VOID there and not at 2, by a/0 of 1: that to 0, or a to b of 1, a ring, to 2
        Far y = new Far("m2b/0m1a/0m2ba0m2ac0m2a/0c12m1ab0");
        Check.told("by its third number", y, y.nearest(0, 2), 5, 0, 4, 0, 1);
        Check.told("the other way round", y, y.nearest(2, 0), 5, 4, 0, 0, 1);
        Far z = new Far("m0a/0m1a/0m2a/0");
        Check.told("as few first, then the least", z, z.nearest(0, 1), 1, 0, 1, 0, 0);
    }

    /** It is promised of what never is: what a COPY lacks always waits for it, so that it is never answered. */
    @Of(promise = 29, says = "-2: that they never are (by the LETTERS that wait now)")
    static void nearestIsNeverNever() {
        for (int seed = 1; seed <= 30; seed++) {
            Far x = new Far();
            Draws draws = new Draws(seed);
            for (int i = 0; i < 60; i++) {
                int kind = draws.next(8);
                int one = draws.next(3);
                int other = draws.next(3);
                int folder = draws.next(12) + 2;
                if (kind < 4) {
                    x.makes(one, folder, draws.next(14), 0);
                } else if (kind < 7) {
                    x.comes(one, other);
                } else {
                    x.cuts(one);
                }
                Check.due("it is never -2", x.nearest(one, (one + 1) % 3) >= 0, true);
            }
        }
    }

    @Of(promise = 29, says = "NONE: others.")
    static void nearestOfNone() {
        Check.noTwoCopies(new Far("m0a/0")::nearest);
    }

    @Of(promise = 30, says = "n times (1 .. 40; it is not kept)")
    static void yearsAreNotKept() {
        for (int n : new int[] {1, 2, 39, 40}) {
            Far x = States.some();
            Check.due(n + " times", x.years(7, n) >= 0, true);
            x.voids(0);
            Far y = States.some();
            y.voids(0);
            Check.due("it is not kept", x.state(), y.state());
            compareYears(States.some(), 7, n);
            compareYears(new Far(), -7, n);
        }
    }

    /** Asks years(), then does the same by calls of an object as it was. */
    private static void compareYears(Far x, int seed, int n) {
        long answer = x.years(seed, n);
        long[] told = {x.row(0), x.row(1), x.row(2), x.row(3)};
        Check.due("four numbers", x.count(7), 4);
        Draws draws = new Draws(seed);
        for (int i = 0; i < n; i++) {
            act(x, draws);
        }
        String which = "seed " + seed + ", " + n + " times: ";
        Check.due(which + "MOVES of all LOGS", answer, x.count(0) + x.count(1) + x.count(2));
        x.apart(0, 1);
        Check.due(which + "OTHER of 0 and 1", told[0], x.row(0));
        Check.due(which + "there at 2", told[1], x.count(5));
        Check.due(which + "STABLE of 0", told[2], x.stable(0));
        Check.due(which + "LETTERS", told[3], x.count(6));
    }

    /** One act of years(): its kind. */
    private static int act(Far x, Draws draws) {
        int kind = draws.next(8);
        int one = draws.next(3);
        if (kind < 3) {
            int folder = draws.next(12) + 2;
            int parent = draws.next(14);
            int name = draws.next(10);
            x.makes(one, folder, parent, name);
        } else if (kind == 3) {
            x.beats(one);
        } else if (kind < 6) {
            x.comes(one, draws.next(3));
        } else if (kind == 6) {
            x.gathers(one);
        } else {
            x.cuts(one);
        }
        return kind;
    }

    /** A seed of which the first act is of a kind, and has a COPY. */
    private static int seedOf(int kind, int copy) {
        for (int seed = 0; seed < 10000; seed++) {
            Draws draws = new Draws(seed);
            if (draws.next(8) == kind && draws.next(3) == copy) {
                return seed;
            }
        }
        throw new IllegalStateException("no such seed");
    }

    /** One act of each COPY, of one kind, in states where it can be done, and where it can't. */
    private static void compareActs(int kind) {
        for (int copy = 0; copy < 3; copy++) {
            int seed = seedOf(kind, copy);
            compareYears(new Far(), seed, 1);
            compareYears(States.some(), seed, 1);
            compareYears(States.fullLogs(), seed, 1);
            compareYears(States.fullWays(), seed, 1);
            compareYears(new Far("m0a/0m1b/0m2c/0g0g1g2b0b1b2g0g1g2"), seed, 1);
        }
    }

    @Of(promise = 30, says = "a DRAW of 8: 0, 1, 2: a DRAW of 3, a DRAW of 12 and 2, a DRAW of 14, a DRAW of 10: makes()")
    static void yearsThatMake() {
        compareActs(0);
        compareActs(1);
        compareActs(2);
        Far x = new Far();
        int there = 0;
        for (int seed = 0; seed < 400; seed++) {
            Draws draws = new Draws(seed);
            if (draws.next(8) < 3 && draws.next(3) == 2) {
                int folder = draws.next(12) + 2;
                int parent = draws.next(14);
                Check.due("one MOVE", x.years(seed, 1), 1);
                Check.due("it is there, or VOID", x.row(1), parent < 2 ? 1 << folder : 0);
                there += parent < 2 ? 1 : 0;
            }
        }
        Check.due("some were not VOID", there > 2, true);
    }

    @Of(promise = 30, says = "3: a DRAW of 3: beats()")
    static void yearsThatBeat() {
        compareActs(3);
        Far x = new Far();
        Check.told("a BEAT", x, x.years(seedOf(3, 1), 1), 0, 0, 0, 0, 2);
    }

    @Of(promise = 30, says = "4, 5: a DRAW of 3, a DRAW of 3: comes()")
    static void yearsThatCome() {
        compareActs(4);
        compareActs(5);
        // 2 to 0, and 2 to itself, which is refused
        for (int to = 0; to < 3; to++) {
            int seed = seedOfComing(2, to);
            Far x = new Far("m2a/0");
            Check.told("from 2 to " + to, x, x.years(seed, 1), to == 2 ? 1 : 2, to == 2 ? 0 : 4, 4, 0, to == 2 ? 2 : 1);
        }
    }

    private static int seedOfComing(int from, int to) {
        for (int seed = 0; seed < 10000; seed++) {
            Draws draws = new Draws(seed);
            int kind = draws.next(8);
            if ((kind == 4 || kind == 5) && draws.next(3) == from && draws.next(3) == to) {
                return seed;
            }
        }
        throw new IllegalStateException("no such seed");
    }

    @Of(promise = 30, says = "6: a DRAW of 3: gathers()")
    static void yearsThatGather() {
        compareActs(6);
        Far x = new Far("m1a/0m1b/0");
        Check.told("two to 0", x, x.years(seedOf(6, 0), 1), 4, 0, 0, 0, 2);
        Check.told("two to 2", x, x.years(seedOf(6, 2), 1), 4, Check.bits(A, B), Check.bits(A, B), 0, 2);
    }

    @Of(promise = 30, says = "7: a DRAW of 3: cuts()")
    static void yearsThatCut() {
        compareActs(7);
        Far x = new Far("m1a/0m1b/0g0g2b0b2g1");
        Check.told("two of 1", x, x.years(seedOf(7, 1), 1), 4, 0, Check.bits(A, B), 0, 2);
        Check.told("none of 0", x, x.years(seedOf(7, 0), 1), 6, 0, Check.bits(A, B), 0, 2);
    }

    @Of(promise = 30, says = "(what is refused is not done)")
    static void yearsThatAreRefused() {
        for (int seed = -20; seed < 20; seed++) {
            compareYears(States.fullLogs(), seed * 77777, 40);
            compareYears(States.fullWays(), seed * 99991, 40);
        }
    }

    @Of(promise = 30, says = "what would come: how many MOVES all LOGS would have; the ROW: OTHER of the trees of COPIES 0 and 1, "
        + "FOLDERS that are there at COPY 2, STABLE of COPY 0, how many LETTERS wait in all, then.")
    static void rowOfYears() {
        for (int seed = 0; seed < 200; seed++) {
            compareYears(new Far(), seed * 1234567, 1 + seed % 40);
            compareYears(States.some(), seed - 100, 40);
        }
    }

    @Of(promise = 30, says = "NONE: another n.")
    static void yearsOfAnotherN() {
        Far x = States.some();
        for (int n : new int[] {0, -1, 41, 42, Check.LEAST, Check.GREATEST}) {
            Check.due(n + " times", x.years(1, n), Check.NONE);
        }
    }

    @Of(promise = 30, says = "A DRAW of n: R = R times 1103515245 + 12345 (as ints; R is seed at first), "
        + "(R without sign, by 65536) % n.")
    static void draws() {
        // seeds at the ends of the ints, and those whose R is below 0, in which the sign would count
        for (int seed : new int[] {0, 1, -1, Check.LEAST, Check.GREATEST, Check.LEAST + 1, 1 << 30, -(1 << 30), 65536, -65536}) {
            for (int n : new int[] {1, 2, 3, 20, 40}) {
                compareYears(new Far(), seed, n);
                compareYears(States.some(), seed, n);
            }
        }
        // R of seed 0 is 12345, by 65536 it is 0: 0 of 8 makes a MOVE
        Far x = new Far();
        Check.due("seed 0", x.years(0, 1), 1);
    }
}
