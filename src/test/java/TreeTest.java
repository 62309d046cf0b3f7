/** Promises 15 to 20 and 23: questions about trees. */
public final class TreeTest {
    private static final int NONE = FarFolders.NONE;
    private static final int A = 2;
    private static final int B = 3;
    private static final int C = 4;
    private static final int D = 5;
    private static final int E = 6;
    private static final int F = 7;
    private static final int G = 8;
    private static final int L = 13;

    private TreeTest() {
    }

    public static void main(String[] args) {
        below();
        depth();
        meets();
        places();
        totals();
        weights();
        lists();
        refusals();
        apart();
        deepest();
        Check.close("TreeTest");
    }

    /**
     * At COPY 1, STAMPS in brackets: below THE ROOT a (1, 7) with d 5 (6), c 5 (4), e 0 (5); below d f 3 (8);
     * then b (2, 7), g (7, 2); below THE TRASH l (3, 9). At COPY 0 the same, at COPY 2 nothing.
     */
    private static FarFolders grown() {
        FarFolders x = new FarFolders();
        Check.doAll(x, "m1a/7m1b/7m1l~9m1ca5m1ea0m1da5", "g0b0c01", "m0g/2m0fd3c01c01", "b0");
        return x;
    }

    private static void below() {
        FarFolders x = grown();
        Check.due("root", x.below(1, 0), Check.bits(A, B, G));
        Check.row("root", x, 7);
        Check.due("trash", x.below(1, 1), Check.bits(L));
        Check.row("trash", x, 1);
        Check.due("a", x.below(1, A), Check.bits(C, D, E));
        Check.row("a", x, 4);
        Check.due("d", x.below(1, D), Check.bits(F));
        Check.row("d", x, 1);
        Check.due("f", x.below(1, F), 0);
        Check.row("f", x, 0);
        Check.due("root at 2", x.below(2, 0), 0);
        Check.row("root at 2", x, 0);
    }

    private static void depth() {
        FarFolders x = grown();
        int[] nodes = {0, 1, A, B, C, D, E, F, G, L};
        int[] depths = {0, 0, 1, 1, 2, 2, 2, 3, 1, 1};
        for (int i = 0; i < nodes.length; i++) {
            Check.due("depth of " + nodes[i], x.depth(1, nodes[i]), depths[i]);
            Check.row("top of " + nodes[i], x, nodes[i] == 1 || nodes[i] == L ? 1 : 0);
        }
    }

    private static void meets() {
        FarFolders x = grown();
        int[][] due = {{F, E, A}, {E, F, A}, {F, D, D}, {D, F, D}, {F, F, F}, {F, B, 0}, {F, 0, 0}, {0, F, 0}, {0, 0, 0},
            {1, 1, 1}, {L, 1, 1}, {1, L, 1}, {L, L, L}, {C, A, A}, {L, A, -3}, {A, L, -3}, {0, 1, -3}, {1, 0, -3}, {1, F, -3}};
        x.below(1, 0);
        for (int[] d : due) {
            Check.due("meets(1, " + d[0] + ", " + d[1] + ")", x.meets(1, d[0], d[1]), d[2]);
        }
        Check.due("one not there", x.meets(1, 9, A), -2);
        Check.due("other not there", x.meets(1, A, 9), -2);
        Check.due("one and the same, not there", x.meets(1, 9, 9), -2);
        Check.due("in the trash, and not there", x.meets(1, L, 9), -2);
        Check.due("no node 14", x.meets(1, 14, 9), NONE);
        Check.due("no node -1", x.meets(1, 9, -1), NONE);
        Check.due("no copy", x.meets(3, 0, 0), NONE);
        Check.due("no copy", x.meets(-1, 0, 0), NONE);
        Check.row("the row stays", x, 7);
    }

    private static void places() {
        FarFolders x = grown();
        x.below(1, 0);
        int all = Check.bits(0, 1, A, B, C, D, E, F, G, L);
        Check.due("a", x.places(1, A), all & ~Check.bits(A, C, D, E, F));
        Check.due("d", x.places(1, D), all & ~Check.bits(D, F));
        Check.due("f", x.places(1, F), all & ~Check.bits(F));
        Check.due("l", x.places(1, L), all & ~Check.bits(L));
        Check.due("not there", x.places(1, 9), all);
        Check.due("nothing there", x.places(2, A), 3);
        Check.due("the root", x.places(1, 0), NONE);
        Check.due("the trash", x.places(1, 1), NONE);
        Check.due("no folder 14", x.places(1, 14), NONE);
        Check.due("no folder -1", x.places(1, -1), NONE);
        Check.due("no copy", x.places(3, A), NONE);
        Check.due("no copy", x.places(-1, A), NONE);
        Check.row("the row stays", x, 7);
    }

    private static void totals() {
        FarFolders x = grown();
        x.below(1, 0);
        // nodes, and of each: how many, leaves, steps down, latest, with a RANK
        int[][] due = {{0, 8, 5, 3, 8, 2}, {1, 2, 1, 1, 3, 0}, {A, 5, 3, 2, 8, 1}, {B, 1, 1, 0, 2, 1}, {C, 1, 1, 0, 4, 0},
            {D, 2, 1, 1, 8, 1}, {F, 1, 1, 0, 8, 0}, {L, 1, 1, 0, 3, 0}};
        for (int[] d : due) {
            for (int what = 0; what < 5; what++) {
                Check.due("total(1, " + d[0] + ", " + what + ")", x.total(1, d[0], what), d[what + 1]);
            }
        }
        int[] nothing = {1, 1, 0, 0, 0, 0};
        for (int what = 0; what < 6; what++) {
            Check.due("of an empty root", x.total(2, 0, what), nothing[what]);
            Check.due("of an empty trash", x.total(2, 1, what), nothing[what]);
        }
        Check.due("what 6", x.total(1, A, 6), NONE);
        Check.due("what -1", x.total(1, A, -1), NONE);
        Check.due("what 6 of what is not there", x.total(1, 9, 6), NONE);
        Check.row("the row stays", x, 7);
    }

    private static void weights() {
        FarFolders x = grown();
        Check.due("f", x.total(1, F, 5), 3);
        int d = 3 * 5 + 3;
        Check.due("d", x.total(1, D, 5), d);
        int a = ((7 * 3 + 5) * 3 + d) * 3;
        Check.due("a", x.total(1, A, 5), a);
        Check.due("root", x.total(1, 0, 5), (a * 3 + 7) * 3 + 2);
        Check.due("trash", x.total(1, 1, 5), 9);
        Check.due("l", x.total(1, L, 5), 9);
    }

    private static void lists() {
        FarFolders x = grown();
        Check.due("by numbers", x.lists(1, 0, 0), 7);
        Check.row("by numbers", x, A, C, D, F, E, B, G);
        Check.due("by names", x.lists(1, 0, 1), 7);
        Check.row("by names, then ranks", x, G, A, E, C, D, F, B);
        Check.due("by stamps", x.lists(1, 0, 2), 7);
        Check.row("the latest first", x, G, B, A, D, F, E, C);
        Check.due("by how many below", x.lists(1, 0, 3), 7);
        Check.row("by how many below", x, A, D, F, C, E, B, G);
        Check.due("of a alone", x.lists(1, A, 2), 4);
        Check.row("of a alone", x, D, F, E, C);
        Check.due("the trash", x.lists(1, 1, 3), 1);
        Check.row("the trash", x, L);
        Check.due("of a leaf", x.lists(1, F, 1), 0);
        Check.row("of a leaf", x);
        x.lists(1, 1, 0);
        Check.due("how 4", x.lists(1, 0, 4), NONE);
        Check.due("how -1", x.lists(1, 0, -1), NONE);
        Check.due("how 4 of what is not there", x.lists(1, 9, 4), NONE);
        Check.row("the row stays", x, L);
        // of one NAME the RANK counts, not the number; of one TIME the COPY
        FarFolders y = new FarFolders();
        Check.doAll(y, "m2b/1m0d/1m1a/1g0g1g2");
        y.lists(0, 0, 1);
        Check.row("by rank", y, D, A, B);
        y.lists(0, 0, 2);
        Check.row("by stamp", y, B, A, D);
        y.lists(0, 0, 0);
        Check.row("by number", y, A, B, D);
    }

    private static void refusals() {
        FarFolders x = grown();
        x.below(1, A);
        int[][] wrong = {{1, 9, -2}, {2, A, -2}, {1, 14, NONE}, {1, -1, NONE}, {1, 16, NONE}, {3, 0, NONE}, {-1, 0, NONE},
            {3, 9, NONE}};
        for (int[] w : wrong) {
            String at = " of " + w[1] + " at " + w[0];
            Check.due("below" + at, x.below(w[0], w[1]), w[2]);
            Check.due("depth" + at, x.depth(w[0], w[1]), w[2]);
            Check.due("path" + at, x.path(w[0], w[1]), w[2]);
            for (int k = 0; k < 4; k++) {
                Check.due("lists" + at, x.lists(w[0], w[1], k), w[2]);
            }
            for (int k = 0; k < 6; k++) {
                Check.due("total" + at, x.total(w[0], w[1], k), w[2]);
            }
        }
        Check.row("the row stays", x, 4);
    }

    private static void apart() {
        FarFolders x = grown();
        Check.due("0 and 1", x.apart(0, 1), 0);
        Check.row("0 and 1", x, 0);
        Check.due("0 and 2", x.apart(0, 2), 8);
        Check.row("0 and 2", x, Check.bits(A, B, C, D, E, F, G, L));
        Check.due("2 and 0", x.apart(2, 0), 8);
        Check.doAll(x, "g2m1c~5");
        Check.due("another parent", x.apart(0, 1), 1);
        Check.row("another parent", x, Check.bits(C));
        Check.doAll(x, "c10m1ea1");
        Check.due("another name", x.apart(1, 0), 1);
        Check.row("another name", x, Check.bits(E));
        Check.doAll(x, "c10m1b/7");
        Check.due("another stamp alone", x.apart(0, 1), 1);
        Check.row("another stamp alone", x, Check.bits(B));
        Check.doAll(x, "c10m1ab7m1ba7");
        Check.due("a void one changes nothing", x.apart(0, 1), 1);
        Check.row("a void one changes nothing", x, Check.bits(A));
        Check.due("one copy", x.apart(1, 1), NONE);
        Check.due("no copy", x.apart(0, 3), NONE);
        Check.due("no copy", x.apart(-1, 0), NONE);
        Check.row("the row stays", x, Check.bits(A));
        FarFolders y = new FarFolders();
        Check.doAll(y, "m0a/0m1a/0");
        Check.due("another copy in the stamp", y.apart(0, 1), 1);
    }

    /** All twelve FOLDERS, each in the one before. */
    private static void deepest() {
        FarFolders x = new FarFolders();
        Check.doAll(x, "m0a~1m0ba1m0cb1m0dc1m0ed1m0fe1", "g1g2", "m0gf1m0hg1m0ih1m0ji1m0kj1m0lk1");
        Check.due("depth", x.depth(0, L), 12);
        Check.row("depth", x, 1);
        Check.due("path", x.path(0, L), 25);
        Check.due("total", x.total(0, 1, 0), 13);
        Check.due("steps", x.total(0, 1, 2), 12);
        Check.due("places of a", x.places(0, A), 3);
        Check.due("places of l", x.places(0, L), (1 << 13) - 1);
        Check.due("list", x.lists(0, 1, 3), 12);
        Check.row("list", x, 2, 3, 4, 5, 6, 7, 8, 9, 10, 11, 12, 13);
        int w = 1;
        for (int i = 0; i < 11; i++) {
            w = 3 + w;
        }
        Check.due("weight", x.total(0, 1, 5), w);
        Check.due("meets", x.meets(0, L, A), A);
        Check.doAll(x, "g1g2m0al0");
        Check.due("a ring of twelve", x.voids(0), Check.bits(12));
    }
}
