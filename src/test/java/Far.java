/**
 * FarFolders with its calls counted, since nothing is promised behind the 512th: a test that asks more
 * than that of one object is wrong itself.
 */
final class Far {
    static final int MOST_CALLS = 512;

    private final FarFolders inside = new FarFolders();
    private int calls;

    /** An object with some days behind it, of which nothing was refused. */
    Far(String... days) {
        doAll(days);
    }

    private FarFolders called() {
        calls++;
        if (calls > MOST_CALLS) {
            throw new IllegalStateException("the test asks beyond the 512th call");
        }
        return inside;
    }

    int calls() {
        return calls;
    }

    /** THE TEXT becomes a text. */
    void say(String text) {
        end(0);
        for (int p = 0; p < text.length(); p += 4) {
            int v = 0;
            for (int k = 0; k < 4; k++) {
                v = v << 8 | (p + k < text.length() ? text.charAt(p + k) & 255 : 0);
            }
            sign(v);
        }
        Check.due("the text " + text + " is taken", end(text.length()), true);
    }

    int day(String text) {
        say(text);
        return day();
    }

    int finds(int copy, String path) {
        say(path);
        return finds(copy);
    }

    /** Does days of which nothing may be refused. */
    void doAll(String... days) {
        for (String text : days) {
            int done = day(text);
            Check.due("the day " + text + " is done, and whole", done >= 0 && row(0) == 0, true);
        }
    }

    /** All that can be seen, as a text; it changes the ROW, and takes some 300 calls. */
    String state() {
        StringBuilder s = new StringBuilder("row");
        addRow(s);
        for (int what : new int[] {0, 1, 2, 3, 4, 5, 6, 8, 9}) {
            s.append(" count ").append(count(what));
        }
        for (int copy = 0; copy < 3; copy++) {
            s.append("\ncopy ").append(copy).append(" void ").append(voids(copy)).append(" stable ").append(stable(copy));
            addRow(s);
            addEntries(s, copy, count(3 + copy));
            addLog(s, copy, count(copy));
            s.append(" then ").append(then(copy));
            addRow(s);
            for (int to = 0; to < 3; to++) {
                s.append(" letters ").append(letters(copy, to));
                if (to != copy) {
                    addRow(s);
                }
            }
        }
        return s.toString();
    }

    private void addRow(StringBuilder s) {
        int numbers = count(7);
        for (int i = 0; i < numbers; i++) {
            s.append(' ').append(row(i));
        }
    }

    /** PARENT and STAMP: the STAMP says which MOVE it comes from. */
    private void addEntries(StringBuilder s, int copy, int there) {
        for (int folder = 2; folder < 14; folder++) {
            if ((there >> folder & 1) == 1) {
                s.append(" entry ").append(folder).append(' ').append(entry(copy, folder, 0)).append(' ')
                    .append(entry(copy, folder, 3)).append(' ').append(entry(copy, folder, 4));
            }
        }
    }

    private void addLog(StringBuilder s, int copy, int moves) {
        for (int i = 0; i < moves; i++) {
            s.append(" move ").append(move(copy, i, 0)).append(' ').append(move(copy, i, 1));
        }
    }

    int sign(int v) {
        return called().sign(v);
    }

    boolean end(int n) {
        return called().end(n);
    }

    int entry(int copy, int folder, int what) {
        return called().entry(copy, folder, what);
    }

    int move(int copy, int i, int what) {
        return called().move(copy, i, what);
    }

    int makes(int copy, int folder, int parent, int name) {
        return called().makes(copy, folder, parent, name);
    }

    int beats(int copy) {
        return called().beats(copy);
    }

    int comes(int from, int to) {
        return called().comes(from, to);
    }

    int gathers(int copy) {
        return called().gathers(copy);
    }

    int cuts(int copy) {
        return called().cuts(copy);
    }

    int day() {
        return called().day();
    }

    int letters(int from, int to) {
        return called().letters(from, to);
    }

    int stable(int copy) {
        return called().stable(copy);
    }

    int voids(int copy) {
        return called().voids(copy);
    }

    int below(int copy, int node) {
        return called().below(copy, node);
    }

    int depth(int copy, int node) {
        return called().depth(copy, node);
    }

    int meets(int copy, int one, int other) {
        return called().meets(copy, one, other);
    }

    int places(int copy, int folder) {
        return called().places(copy, folder);
    }

    int total(int copy, int node, int what) {
        return called().total(copy, node, what);
    }

    int lists(int copy, int node, int how) {
        return called().lists(copy, node, how);
    }

    int finds(int copy) {
        return called().finds(copy);
    }

    int path(int copy, int node) {
        return called().path(copy, node);
    }

    int apart(int one, int other) {
        return called().apart(one, other);
    }

    int late(int from, int to) {
        return called().late(from, to);
    }

    int then(int copy) {
        return called().then(copy);
    }

    int worst(int copy) {
        return called().worst(copy);
    }

    int frees(int copy, int i) {
        return called().frees(copy, i);
    }

    int idle(int copy) {
        return called().idle(copy);
    }

    int nearest(int one, int other) {
        return called().nearest(one, other);
    }

    int years(int seed, int n) {
        return called().years(seed, n);
    }

    boolean keep(int i) {
        return called().keep(i);
    }

    boolean again(int i) {
        return called().again(i);
    }

    int count(int what) {
        return called().count(what);
    }

    long row(int i) {
        return called().row(i);
    }
}
