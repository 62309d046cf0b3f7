import java.util.function.IntBinaryOperator;

/** Promises 15 to 20 and 23: questions about trees. */
final class TreeSentences {
    private static final int A = 2;
    private static final int B = 3;
    private static final int C = 4;
    private static final int D = 5;
    private static final int E = 6;
    private static final int F = 7;
    private static final int G = 8;
    private static final int L = 13;

    private TreeSentences() {
    }

    /**
     * At COPY 1, with NAMES and STAMPS: below THE ROOT a 7 (1), b 7 (2) and g 2 (7); in a c 5 (4), e 0 (5) and d 5 (6);
     * in d f 3 (8); in THE TRASH l 9 (3). At COPY 0 the same, at COPY 2 nothing. COPY 1 can't make more, the others can.
     */
    private static Far grown() {
        return new Far("m1a/7m1b/7m1l~9m1ca5m1ea0m1da5", "g0b0c01", "m0g/2m0fd3c01c01", "b0");
    }

    private static void notThere(String what, Far x, IntBinaryOperator call) {
        Check.due(what + ": nowhere", call.applyAsInt(1, 9), -2);
        Check.due(what + ": at 1, not at 2", call.applyAsInt(2, A), -2);
        Check.due(what + ": the last", call.applyAsInt(2, L), -2);
        x.doAll("m2cc0");
        Check.due(what + ": by a VOID one", call.applyAsInt(2, C), -2);
    }

    @Of(promise = 15, says = "FOLDERS that lie right below a NODE at a COPY: they")
    static void rightBelow() {
        Far x = grown();
        Check.due("THE ROOT", x.below(1, 0), Check.bits(A, B, G));
        Check.due("THE TRASH", x.below(1, 1), Check.bits(L));
        Check.due("a", x.below(1, A), Check.bits(C, D, E));
        Check.due("d", x.below(1, D), Check.bits(F));
        Check.due("none", x.below(1, F), 0);
        Check.due("where nothing is", x.below(2, 0), 0);
        Check.due("all twelve", States.flat().below(0, 0), (1 << 14) - 4);
    }

    @Of(promise = 15, says = "the ROW: how many lie below it at any depth")
    static void howManyBelow() {
        Far x = grown();
        int[][] due = {{0, 7}, {1, 1}, {A, 4}, {B, 0}, {D, 1}, {F, 0}};
        for (int[] d : due) {
            x.below(1, d[0]);
            Check.row("below " + d[0], x, d[1]);
        }
        x.below(2, 1);
        Check.row("where nothing is", x, 0);
        Far chain = States.chain('~');
        Check.told("twelve, one right below", chain, chain.below(0, 1), Check.bits(A), 12);
        Check.told("eleven", chain, chain.below(0, A), Check.bits(B), 11);
        Far flat = States.flat();
        flat.below(0, 0);
        Check.row("twelve, all right below", flat, 12);
    }

    @Of(promise = 15, says = "-2: it is not there")
    static void belowWhatIsNotThere() {
        Far x = grown();
        notThere("below", x, x::below);
    }

    @Of(promise = 15, says = "NONE: others")
    static void belowNone() {
        Check.noNode("below", grown()::below);
    }

    @Of(promise = 16, says = "How many steps lead up from a NODE to THE ROOT, or THE TRASH: how many (0 of these)")
    static void depths() {
        Far x = grown();
        int[][] due = {{0, 0}, {1, 0}, {A, 1}, {B, 1}, {C, 2}, {D, 2}, {E, 2}, {F, 3}, {G, 1}, {L, 1}};
        for (int[] d : due) {
            Check.due("depth of " + d[0], x.depth(1, d[0]), d[1]);
        }
        Check.due("where nothing is", x.depth(2, 0) + x.depth(2, 1), 0);
        Far chain = States.chain('/');
        for (int folder = 2; folder < 14; folder++) {
            Check.due("up to twelve", chain.depth(0, folder), folder - 1);
        }
    }

    @Of(promise = 16, says = "the ROW: which of them")
    static void whereDepthEnds() {
        Far x = grown();
        for (int node : new int[] {0, 1, A, F, L}) {
            x.depth(1, node);
            Check.row("above " + node, x, node == 1 || node == L ? 1 : 0);
        }
        Far chain = States.chain('~');
        chain.depth(0, L);
        Check.row("twelve steps to THE TRASH", chain, 1);
    }

    @Of(promise = 16, says = "-2: it is not there")
    static void depthOfWhatIsNotThere() {
        Far x = grown();
        notThere("depth", x, x::depth);
    }

    @Of(promise = 16, says = "NONE: others")
    static void depthOfNone() {
        Check.noNode("depth", grown()::depth);
    }

    @Of(promise = 17, says = "The lowest NODE below which, or at which, two NODES lie both: it.")
    static void meeting() {
        Far x = grown();
        int[][] due = {{F, E, A}, {E, F, A}, {C, D, A}, {F, D, D}, {D, F, D}, {F, A, A}, {F, F, F}, {F, B, 0}, {A, B, 0}, {F, 0, 0},
            {0, F, 0}, {0, 0, 0}, {1, 1, 1}, {L, 1, 1}, {1, L, 1}, {L, L, L}};
        for (int[] d : due) {
            Check.due("meets(1, " + d[0] + ", " + d[1] + ")", x.meets(1, d[0], d[1]), d[2]);
        }
        Far chain = States.chain('~');
        Check.due("twelve steps up", chain.meets(0, 1, L), 1);
        Check.due("eleven steps up", chain.meets(0, L, A), A);
        Far flat = States.flat();
        Check.due("all meet at THE ROOT", flat.meets(0, A, L), 0);
    }

    @Of(promise = 17, says = "-2: one is not there")
    static void meetingWhatIsNotThere() {
        Far x = grown();
        Check.due("the first", x.meets(1, 9, A), -2);
        Check.due("the second", x.meets(1, A, 9), -2);
        Check.due("both", x.meets(1, 9, 10), -2);
        Check.due("both, one and the same", x.meets(1, 9, 9), -2);
        Check.due("with THE ROOT", x.meets(1, 0, 9), -2);
        Check.due("where there is none either", x.meets(1, L, 9), -2);
        Check.due("at 1, not at 2", x.meets(2, A, 0), -2);
    }

    @Of(promise = 17, says = "-3: there is none")
    static void noMeeting() {
        Far x = grown();
        int[][] pairs = {{0, 1}, {1, 0}, {L, A}, {A, L}, {1, F}, {F, 1}, {0, L}, {L, 0}};
        for (int[] pair : pairs) {
            Check.due("meets(1, " + pair[0] + ", " + pair[1] + ")", x.meets(1, pair[0], pair[1]), -3);
        }
        Check.due("where nothing is", x.meets(2, 0, 1), -3);
    }

    @Of(promise = 17, says = "NONE: others")
    static void meetingNone() {
        Far x = grown();
        Check.noNode("the first", (copy, node) -> x.meets(copy, node, 0));
        Check.noNode("the second", (copy, node) -> x.meets(copy, 0, node));
        Check.noNode("not there", (copy, node) -> x.meets(copy == 1 ? 2 : copy, node, 9));
    }

    @Of(promise = 18, says = "NODES to which a FOLDER could be moved now, so that it would not be VOID: they.")
    static void places() {
        Far x = grown();
        int all = Check.bits(0, 1, A, B, C, D, E, F, G, L);
        Check.due("a, with all below it", x.places(1, A), all & ~Check.bits(A, C, D, E, F));
        Check.due("d", x.places(1, D), all & ~Check.bits(D, F));
        Check.due("f, where it is as well", x.places(1, F), all & ~Check.bits(F));
        Check.due("l", x.places(1, L), all & ~Check.bits(L));
        Check.due("what is not there", x.places(1, 9), all);
        Check.due("where nothing is", x.places(2, A), 3);
        Far chain = States.chain('/');
        Check.due("the first of twelve", chain.places(0, A), 3);
        Check.due("the last of twelve", chain.places(0, L), (1 << 13) - 1);
        // as makes() has it
        for (int node = 0; node < 14; node++) {
            Far y = grown();
            y.makes(0, D, node, 0);
            Check.row("d to " + node, y, (all & ~Check.bits(D, F)) >> node & 1 ^ 1);
        }
    }

    @Of(promise = 18, says = "NONE: others")
    static void placesOfNone() {
        Far x = grown();
        Check.noCopy(copy -> x.places(copy, A));
        for (int folder : Check.NO_FOLDER) {
            Check.due("FOLDER " + folder, x.places(1, folder), Check.NONE);
        }
    }

    /** Pairs of a NODE and what total() answers of it. */
    private static void totals(Far x, int copy, int what, int[]... due) {
        for (int[] d : due) {
            Check.due("total(" + copy + ", " + d[0] + ", " + what + ")", x.total(copy, d[0], what), d[1]);
        }
    }

    @Of(promise = 19, says = "Of a NODE, with all that lies below it, what 0: how many")
    static void howMany() {
        totals(grown(), 1, 0, new int[][] {{0, 8}, {1, 2}, {A, 5}, {B, 1}, {D, 2}, {F, 1}});
        totals(grown(), 2, 0, new int[][] {{0, 1}, {1, 1}});
        totals(States.chain('~'), 0, 0, new int[][] {{0, 1}, {1, 13}, {A, 12}, {L, 1}});
    }

    @Of(promise = 19, says = "1: how many have none below them")
    static void leaves() {
        totals(grown(), 1, 1, new int[][] {{0, 5}, {1, 1}, {A, 3}, {B, 1}, {D, 1}, {F, 1}});
        totals(grown(), 2, 1, new int[][] {{0, 1}, {1, 1}});
        totals(States.chain('~'), 0, 1, new int[][] {{0, 1}, {1, 1}, {A, 1}, {L, 1}});
        totals(States.flat(), 0, 1, new int[][] {{0, 12}, {1, 1}, {A, 1}});
    }

    @Of(promise = 19, says = "2: the greatest number of steps down to one")
    static void stepsDown() {
        totals(grown(), 1, 2, new int[][] {{0, 3}, {1, 1}, {A, 2}, {B, 0}, {D, 1}, {F, 0}});
        totals(grown(), 2, 2, new int[][] {{0, 0}, {1, 0}});
        totals(States.chain('~'), 0, 2, new int[][] {{0, 0}, {1, 12}, {A, 11}, {L, 0}});
        totals(States.flat(), 0, 2, new int[][] {{0, 1}, {1, 0}, {A, 0}});
    }

    @Of(promise = 19, says = "3: the greatest TIME of an ENTRY")
    static void latest() {
        totals(grown(), 1, 3, new int[][] {{0, 8}, {1, 3}, {A, 8}, {B, 2}, {C, 4}, {D, 8}, {F, 8}});
        Far x = grown();
        x.doAll("m0a/7m0bb0");
        totals(x, 0, 3, new int[][] {{0, 9}, {A, 9}, {D, 8}, {B, 2}});
    }

    @Of(promise = 19, says = "(0 without; of THE ROOT and THE TRASH themselves none)")
    static void latestOfNothing() {
        totals(grown(), 2, 3, new int[][] {{0, 0}, {1, 0}});
        totals(States.chain('~'), 0, 3, new int[][] {{0, 0}, {1, 12}});
        totals(States.chain('/'), 0, 3, new int[][] {{0, 12}, {1, 0}});
    }

    @Of(promise = 19, says = "4: how many have RANK above 0")
    static void ranked() {
        totals(grown(), 1, 4, new int[][] {{0, 2}, {1, 0}, {A, 1}, {B, 1}, {C, 0}, {D, 1}, {F, 0}});
        totals(grown(), 2, 4, new int[][] {{0, 0}, {1, 0}});
        totals(States.flat(), 0, 4, new int[][] {{0, 11}, {1, 0}, {A, 1}, {L, 0}});
        totals(States.chain('/'), 0, 4, new int[][] {{0, 0}, {A, 0}});
    }

    @Of(promise = 19, says = "5: W: it begins with its own NAME (0 of THE ROOT and THE TRASH)")
    static void weightsOfOne() {
        totals(grown(), 1, 5, new int[][] {{B, 7}, {E, 0}, {F, 3}, {L, 9}, {1, 9}});
        totals(grown(), 2, 5, new int[][] {{0, 0}, {1, 0}});
    }

    @Of(promise = 19, says = "for each right below it, by their numbers, it becomes 3 times it and W of that one (as ints)")
    static void weights() {
        int d = 3 * 5 + 3;
        int a = ((7 * 3 + 5) * 3 + d) * 3;
        totals(grown(), 1, 5, new int[][] {{D, d}, {A, a}, {0, (a * 3 + 7) * 3 + 2}});
        totals(States.chain('~'), 0, 5, new int[][] {{L, 1}, {A, 1 + 3 * 11}, {1, 1 + 3 * 11}});
        // twelve of W 3 below one: 3 times all that came ahead
        int w = 0;
        for (int i = 0; i < 12; i++) {
            w = 3 * w + 3;
        }
        totals(States.flat(), 0, 5, new int[][] {{0, w}});
        // by their numbers, not by STAMP or NAME
        totals(new Far("m0c/1m0b/5m0a/9"), 0, 5, new int[][] {{0, (9 * 3 + 5) * 3 + 1}});
    }

    @Of(promise = 19, says = "-2: it is not there")
    static void totalOfWhatIsNotThere() {
        for (int what = 0; what < 6; what++) {
            int k = what;
            Far x = grown();
            notThere("total " + k, x, (copy, node) -> x.total(copy, node, k));
        }
    }

    @Of(promise = 19, says = "NONE: others")
    static void totalOfNone() {
        for (int what = 0; what < 6; what++) {
            int k = what;
            Far x = grown();
            Check.noNode("total " + k, (copy, node) -> x.total(copy, node, k));
        }
        Far x = grown();
        for (int what : new int[] {-1, 6, 7, Check.LEAST, Check.GREATEST}) {
            Check.due("what " + what, x.total(1, A, what), Check.NONE);
            Check.due("what " + what + " of what is not there", x.total(1, 9, what), Check.NONE);
        }
    }

    @Of(promise = 20, says = "All that lies below a NODE, each ahead of what lies below it, "
        + "those right below one NODE in an order, how 0: by their numbers")
    static void listsByNumbers() {
        Far x = grown();
        Check.told("THE ROOT", x, x.lists(1, 0, 0), 7, A, C, D, F, E, B, G);
        Check.told("a alone", x, x.lists(1, A, 0), 4, C, D, F, E);
        Check.told("THE TRASH", x, x.lists(1, 1, 0), 1, L);
        Far y = new Far("m0l/0m0al0m0b/0m0kb0");
        Check.told("what is below comes right behind", y, y.lists(0, 0, 0), 4, B, 12, L, A);
        Far flat = States.flat();
        Check.told("all twelve", flat, flat.lists(0, 0, 0), 12, 2, 3, 4, 5, 6, 7, 8, 9, 10, 11, 12, 13);
    }

    @Of(promise = 20, says = "1: by NAME, then RANK")
    static void listsByNames() {
        Far x = grown();
        Check.told("THE ROOT", x, x.lists(1, 0, 1), 7, G, A, E, C, D, F, B);
        Far y = new Far("m2b/1m0d/1m1a/1m0c/0g0");
        Check.told("of one NAME by RANK", y, y.lists(0, 0, 1), 4, C, D, A, B);
        Far flat = States.flat();
        Check.told("RANK 0 to 11", flat, flat.lists(0, 0, 1), 12, 13, 12, 11, 10, 9, 8, 7, 6, 5, 4, 3, 2);
        Far names = new Far("m0a/9m0b/0m0c/5");
        Check.told("NAME 0 to 9", names, names.lists(0, 0, 1), 3, B, C, A);
    }

    @Of(promise = 20, says = "2: by STAMP, the latest first")
    static void listsByStamps() {
        Far x = grown();
        Check.told("THE ROOT", x, x.lists(1, 0, 2), 7, G, B, A, D, F, E, C);
        Far y = new Far("m2b/1m0d/1m1a/1g0");
        Check.told("of one TIME by COPY", y, y.lists(0, 0, 2), 3, B, A, D);
        Far flat = States.flat();
        Check.told("TIME 12 to 1", flat, flat.lists(0, 0, 2), 12, 2, 3, 4, 5, 6, 7, 8, 9, 10, 11, 12, 13);
    }

    @Of(promise = 20, says = "3: by how many lie below them at any depth, the most first, then by their numbers")
    static void listsByHowManyBelow() {
        Far x = grown();
        Check.told("THE ROOT", x, x.lists(1, 0, 3), 7, A, D, F, C, E, B, G);
        // two below d at two depths, two right below c, one below b
        Far y = new Far("m0a/0m0b/0m0c/0m0d/0m0eb0m0fc0", "g1g2m0gc0m0hd0m0ih0");
        Check.told("then by numbers", y, y.lists(0, 0, 3), 9, C, F, G, D, 9, 10, B, E, A);
        Far chain = States.chain('~');
        Check.told("twelve", chain, chain.lists(0, 1, 3), 12, 2, 3, 4, 5, 6, 7, 8, 9, 10, 11, 12, 13);
    }

    @Of(promise = 20, says = "how many; the ROW: they.")
    static void howManyAreListed() {
        Far x = grown();
        for (int how = 0; how < 4; how++) {
            Check.told("none below", x, x.lists(1, F, how), 0);
            Check.told("where nothing is", x, x.lists(2, 0, how), 0);
            Check.told("one below", x, x.lists(1, D, how), 1, F);
        }
    }

    @Of(promise = 20, says = "-2: it is not there")
    static void listsOfWhatIsNotThere() {
        for (int how = 0; how < 4; how++) {
            int k = how;
            Far x = grown();
            notThere("lists " + k, x, (copy, node) -> x.lists(copy, node, k));
        }
    }

    @Of(promise = 20, says = "NONE: others")
    static void listsOfNone() {
        for (int how = 0; how < 4; how++) {
            int k = how;
            Far x = grown();
            Check.noNode("lists " + k, (copy, node) -> x.lists(copy, node, k));
        }
        Far x = grown();
        for (int how : new int[] {-1, 4, 5, Check.LEAST, Check.GREATEST}) {
            Check.due("how " + how, x.lists(1, A, how), Check.NONE);
            Check.due("how " + how + " of what is not there", x.lists(1, 9, how), Check.NONE);
        }
    }

    @Of(promise = 23, says = "OTHER of the trees of two COPIES: how many; the ROW: they (bits).")
    static void apart() {
        Far x = grown();
        Check.told("none", x, x.apart(0, 1), 0, 0);
        Check.told("all that is there", x, x.apart(0, 2), 8, Check.bits(A, B, C, D, E, F, G, L));
        Check.told("the other way round", x, x.apart(2, 0), 8, Check.bits(A, B, C, D, E, F, G, L));
        x.doAll("m0a~7m0b/7");
        Check.told("another PARENT, another STAMP", x, x.apart(1, 0), 2, Check.bits(A, B));
        Far flat = States.flat();
        Check.told("all but what has come", flat, flat.apart(1, 0), 6, Check.bits(2, 3, 4, 5, 6, 7));
        Far fresh = new Far();
        Check.told("nothing at both", fresh, fresh.apart(1, 2), 0, 0);
        Far all = new Far("m0a/0m0b/0m0c/0m0d/0m0e/0m0f/0", "m1g/0m1h/0m1i/0m1j/0m1k/0m1l/0");
        Check.told("all twelve", all, all.apart(0, 1), 12, (1 << 14) - 4);
    }

    @Of(promise = 23, says = "NONE: others.")
    static void apartOfNone() {
        Check.noTwoCopies(grown()::apart);
    }
}
