import java.util.ArrayDeque;
import java.util.ArrayList;
import java.util.Arrays;
import java.util.Comparator;
import java.util.HashMap;
import java.util.List;
import java.util.Map;
import java.util.NoSuchElementException;
import java.util.TreeMap;

/**
 * The document a second time, in another way, for FuzzTest: no MOVE is ever thrown away, each tree is
 * made anew from all MOVES, and what the class computes cleverly is tried out here one by one.
 */
final class Model {
    record Move(int time, int copy, int folder, int parent, int name) {
    }

    /** A LETTER; move is null for a BEAT. */
    record Mail(int time, Move move) {
    }

    record Built(Map<Integer, Move> entries, List<Move> voids) {
    }

    static final Comparator<Move> BY_STAMP = Comparator.comparingInt(Move::time).thenComparingInt(Move::copy);

    static final class Site {
        int time;
        int[] heard = new int[3];
        List<Move> moves = new ArrayList<>();
        int cut;

        Site copy() {
            Site s = new Site();
            s.time = time;
            s.heard = heard.clone();
            s.moves = new ArrayList<>(moves);
            s.cut = cut;
            return s;
        }

        List<Move> log() {
            return moves.subList(cut, moves.size());
        }

        Built built() {
            return build(moves, null);
        }

        int undoneBy(Move m) {
            return (int) log().stream().filter(o -> BY_STAMP.compare(o, m) > 0).count();
        }

        void take(int from, Mail mail) {
            time = Math.max(time, mail.time);
            heard[from] = mail.time;
            if (mail.move != null) {
                moves.add(mail.move);
                moves.sort(BY_STAMP);
            }
        }
    }

    Site[] sites = {new Site(), new Site(), new Site()};
    Map<Integer, ArrayDeque<Mail>> ways = new HashMap<>();
    Model[] kept = new Model[2];
    List<Long> row = new ArrayList<>();
    String text = "";

    Model() {
        for (int i = 0; i < 9; i++) {
            ways.put(i, new ArrayDeque<>());
        }
    }

    Model state() {
        Model m = new Model();
        m.become(this);
        return m;
    }

    void become(Model m) {
        for (int i = 0; i < 3; i++) {
            sites[i] = m.sites[i].copy();
        }
        for (int i = 0; i < 9; i++) {
            ways.put(i, new ArrayDeque<>(m.ways.get(i)));
        }
    }

    ArrayDeque<Mail> way(int from, int to) {
        return ways.get(3 * from + to);
    }

    static Built build(List<Move> moves, Move without) {
        Map<Integer, Move> entries = new TreeMap<>();
        List<Move> voids = new ArrayList<>();
        for (Move m : moves) {
            if (m == without) {
                continue;
            }
            boolean there = m.parent < 2 || entries.containsKey(m.parent);
            if (!there || within(entries, m.parent, m.folder)) {
                voids.add(m);
            } else {
                entries.put(m.folder, m);
            }
        }
        return new Built(entries, voids);
    }

    static boolean within(Map<Integer, Move> entries, int node, int top) {
        if (node == top) {
            return true;
        }
        return node >= 2 && within(entries, entries.get(node).parent, top);
    }

    static int other(Map<Integer, Move> one, Map<Integer, Move> two) {
        int set = 0;
        for (int f = 2; f < 14; f++) {
            Move a = one.get(f);
            Move b = two.get(f);
            if (a == null ? b != null : !a.equals(b)) {
                set |= 1 << f;
            }
        }
        return set;
    }

    Map<Integer, Move> tree(int copy) {
        return sites[copy].built().entries;
    }

    static boolean copy(int c) {
        return c >= 0 && c <= 2;
    }

    static boolean node(int n) {
        return n >= 0 && n <= 13;
    }

    static boolean two(int a, int b) {
        return copy(a) && copy(b) && a != b;
    }

    void tell(long... numbers) {
        row = new ArrayList<>();
        for (long n : numbers) {
            row.add(n);
        }
    }

    int sign(int v) {
        if (text.length() + 4 > 80) {
            return -1;
        }
        for (int i = 3; i >= 0; i--) {
            text += (char) (v >> 8 * i & 255);
        }
        return text.length();
    }

    boolean end(int n) {
        if (n < 0 || n > text.length()) {
            return false;
        }
        text = text.substring(0, n);
        return true;
    }

    static int rank(Map<Integer, Move> t, int f) {
        Move m = t.get(f);
        return (int) t.values().stream().filter(o -> o.parent == m.parent && o.name == m.name && BY_STAMP.compare(o, m) < 0)
            .count();
    }

    int entry(int c, int f, int what) {
        if (!copy(c) || f < 2 || f > 13 || !tree(c).containsKey(f) || what < 0 || what > 4) {
            throw new NoSuchElementException();
        }
        Move m = tree(c).get(f);
        return new int[] {m.parent, m.name, rank(tree(c), f), m.time, m.copy}[what];
    }

    int move(int c, int i, int what) {
        if (!copy(c) || i < 0 || i >= sites[c].log().size() || what < 0 || what > 5) {
            throw new NoSuchElementException();
        }
        Move m = sites[c].log().get(i);
        int v = sites[c].built().voids.contains(m) ? 1 : 0;
        return new int[] {m.time, m.copy, m.folder, m.parent, m.name, v}[what];
    }

    boolean full(int c) {
        for (int t = 0; t < 3; t++) {
            if (t != c && way(c, t).size() == 6) {
                return true;
            }
        }
        return false;
    }

    void send(int c, Mail mail) {
        for (int t = 0; t < 3; t++) {
            if (t != c) {
                way(c, t).add(mail);
            }
        }
    }

    int makes(int c, int f, int p, int n) {
        if (!copy(c) || f < 2 || f > 13 || !node(p) || n < 0 || n > 9) {
            return -1;
        }
        if (sites[c].log().size() == 20) {
            return -2;
        }
        if (full(c)) {
            return -3;
        }
        Move m = new Move(sites[c].time + 1, c, f, p, n);
        sites[c].time++;
        sites[c].moves.add(m);
        send(c, new Mail(m.time, m));
        tell(sites[c].built().voids.contains(m) ? 1 : 0);
        return m.time;
    }

    int beats(int c) {
        if (!copy(c)) {
            return -1;
        }
        if (full(c)) {
            return -3;
        }
        send(c, new Mail(sites[c].time, null));
        return sites[c].time;
    }

    int comes(int from, int to) {
        if (!two(from, to)) {
            return -1;
        }
        if (way(from, to).isEmpty()) {
            return -2;
        }
        if (way(from, to).peek().move != null && sites[to].log().size() == 20) {
            return -3;
        }
        return next(from, to);
    }

    int next(int from, int to) {
        Map<Integer, Move> before = tree(to);
        Mail mail = way(from, to).poll();
        int undone = mail.move == null ? 0 : sites[to].undoneBy(mail.move);
        sites[to].take(from, mail);
        tell(other(before, tree(to)));
        return undone;
    }

    List<Move> waitingMoves(int c) {
        List<Move> list = new ArrayList<>();
        for (int f = 0; f < 3; f++) {
            way(f, c).stream().filter(m -> m.move != null).forEach(m -> list.add(m.move));
        }
        return list;
    }

    int waiting(int c) {
        return way(0, c).size() + way(1, c).size() + way(2, c).size();
    }

    int undoneAtOnce(int c) {
        List<Move> list = waitingMoves(c);
        return list.isEmpty() ? 0 : sites[c].undoneBy(list.stream().min(BY_STAMP).get());
    }

    void takeAll(int c) {
        for (int f = 0; f < 3; f++) {
            while (!way(f, c).isEmpty()) {
                sites[c].take(f, way(f, c).poll());
            }
        }
    }

    int gathers(int c) {
        if (!copy(c)) {
            return -1;
        }
        int letters = waiting(c);
        if (letters == 0) {
            return -2;
        }
        if (sites[c].log().size() + waitingMoves(c).size() > 20) {
            return -3;
        }
        int undone = undoneAtOnce(c);
        Map<Integer, Move> before = tree(c);
        takeAll(c);
        tell(undone, other(before, tree(c)));
        return letters;
    }

    int stableOf(int c) {
        int least = 1 << 30;
        for (int o = 0; o < 3; o++) {
            if (o != c) {
                least = Math.min(least, sites[c].heard[o]);
            }
        }
        return least;
    }

    int cutable(int c) {
        int limit = stableOf(c);
        return (int) sites[c].log().stream().filter(m -> m.time <= limit).count();
    }

    int cuts(int c) {
        if (!copy(c)) {
            return -1;
        }
        int n = cutable(c);
        sites[c].cut += n;
        return n;
    }

    static final String NODE_SIGNS = "/~abcdefghijkl";

    int day() {
        String s = text;
        text = "";
        int p = 0;
        while (p < s.length()) {
            String forms = switch (s.charAt(p)) {
                case 'm' -> "cfpn";
                case 'b', 'g', 'x' -> "c";
                case 'c' -> "cc";
                default -> "";
            };
            if (forms.isEmpty()) {
                return -1 - p;
            }
            p++;
            for (char form : forms.toCharArray()) {
                String allowed = switch (form) {
                    case 'c' -> "012";
                    case 'f' -> "abcdefghijkl";
                    case 'p' -> NODE_SIGNS;
                    default -> "0123456789";
                };
                if (p >= s.length() || allowed.indexOf(s.charAt(p)) < 0) {
                    return -1 - p;
                }
                p++;
            }
        }
        int done = 0;
        p = 0;
        int refused = 0;
        while (p < s.length() && refused == 0) {
            int c = s.charAt(p + 1) - '0';
            int answer;
            switch (s.charAt(p)) {
                case 'm' -> {
                    answer = makes(c, NODE_SIGNS.indexOf(s.charAt(p + 2)), NODE_SIGNS.indexOf(s.charAt(p + 3)),
                        s.charAt(p + 4) - '0');
                    p += 5;
                }
                case 'b' -> {
                    answer = beats(c);
                    p += 2;
                }
                case 'c' -> {
                    answer = comes(c, s.charAt(p + 2) - '0');
                    p += 3;
                }
                case 'g' -> {
                    answer = gathers(c);
                    p += 2;
                }
                default -> {
                    answer = cuts(c);
                    p += 2;
                }
            }
            if (answer < 0) {
                refused = 1;
            } else {
                done++;
            }
        }
        tell(refused);
        return done;
    }

    int letters(int from, int to) {
        if (!two(from, to)) {
            return -1;
        }
        tell(way(from, to).stream().mapToLong(Mail::time).toArray());
        return way(from, to).size();
    }

    int stable(int c) {
        if (!copy(c)) {
            return -1;
        }
        tell(sites[c].time, cutable(c));
        return stableOf(c);
    }

    int voids(int c) {
        if (!copy(c)) {
            return -1;
        }
        int set = voidBits(c);
        tell(Integer.bitCount(set));
        return set;
    }

    int voidBits(int c) {
        int set = 0;
        List<Move> voids = sites[c].built().voids;
        for (int i = 0; i < sites[c].log().size(); i++) {
            if (voids.contains(sites[c].log().get(i))) {
                set |= 1 << i;
            }
        }
        return set;
    }

    /** 0 if a NODE is there, else what is answered. */
    int ask(int c, int n) {
        if (!copy(c) || !node(n)) {
            return -1;
        }
        return n < 2 || tree(c).containsKey(n) ? 0 : -2;
    }

    static List<Integer> children(Map<Integer, Move> t, int n) {
        List<Integer> list = new ArrayList<>();
        t.forEach((f, m) -> {
            if (m.parent == n) {
                list.add(f);
            }
        });
        return list;
    }

    static List<Integer> preorder(Map<Integer, Move> t, int n, Comparator<Integer> order) {
        List<Integer> list = new ArrayList<>();
        List<Integer> children = children(t, n);
        children.sort(order);
        for (int f : children) {
            list.add(f);
            list.addAll(preorder(t, f, order));
        }
        return list;
    }

    static List<Integer> allBelow(Map<Integer, Move> t, int n) {
        return preorder(t, n, Comparator.naturalOrder());
    }

    int below(int c, int n) {
        if (ask(c, n) < 0) {
            return ask(c, n);
        }
        tell(allBelow(tree(c), n).size());
        return children(tree(c), n).stream().mapToInt(f -> 1 << f).sum();
    }

    /** From a NODE up, itself first. */
    static List<Integer> chain(Map<Integer, Move> t, int n) {
        List<Integer> list = new ArrayList<>();
        for (int at = n;; at = t.get(at).parent) {
            list.add(at);
            if (at < 2) {
                return list;
            }
        }
    }

    int depth(int c, int n) {
        if (ask(c, n) < 0) {
            return ask(c, n);
        }
        List<Integer> chain = chain(tree(c), n);
        tell(chain.get(chain.size() - 1));
        return chain.size() - 1;
    }

    int meets(int c, int a, int b) {
        if (ask(c, a) == -1 || ask(c, b) == -1) {
            return -1;
        }
        if (ask(c, a) < 0 || ask(c, b) < 0) {
            return -2;
        }
        List<Integer> other = chain(tree(c), b);
        return chain(tree(c), a).stream().filter(other::contains).findFirst().orElse(-3);
    }

    int places(int c, int f) {
        if (!copy(c) || f < 2 || f > 13) {
            return -1;
        }
        int set = 0;
        for (int n = 0; n < 14; n++) {
            List<Move> more = new ArrayList<>(sites[c].moves);
            Move m = new Move(1000000, c, f, n, 0);
            more.add(m);
            if (!build(more, null).voids.contains(m)) {
                set |= 1 << n;
            }
        }
        return set;
    }

    int total(int c, int n, int what) {
        if (what < 0 || what > 5) {
            return -1;
        }
        if (ask(c, n) < 0) {
            return ask(c, n);
        }
        Map<Integer, Move> t = tree(c);
        List<Integer> all = allBelow(t, n);
        all.add(n);
        return switch (what) {
            case 0 -> all.size();
            case 1 -> (int) all.stream().filter(f -> children(t, f).isEmpty()).count();
            case 2 -> all.stream().mapToInt(f -> chain(t, f).size()).max().getAsInt() - chain(t, n).size();
            case 3 -> all.stream().mapToInt(f -> f < 2 ? 0 : t.get(f).time).max().getAsInt();
            case 4 -> (int) all.stream().filter(f -> f >= 2 && rank(t, f) > 0).count();
            default -> weight(t, n);
        };
    }

    static int weight(Map<Integer, Move> t, int n) {
        int w = n < 2 ? 0 : t.get(n).name;
        for (int f : children(t, n)) {
            w = 3 * w + weight(t, f);
        }
        return w;
    }

    int lists(int c, int n, int how) {
        if (how < 0 || how > 3) {
            return -1;
        }
        if (ask(c, n) < 0) {
            return ask(c, n);
        }
        Map<Integer, Move> t = tree(c);
        Comparator<Integer> order = switch (how) {
            case 0 -> Comparator.naturalOrder();
            case 1 -> Comparator.<Integer>comparingInt(f -> t.get(f).name).thenComparingInt(f -> rank(t, f));
            case 2 -> (f, g) -> BY_STAMP.compare(t.get(g), t.get(f));
            default -> Comparator.<Integer>comparingInt(f -> -allBelow(t, f).size()).thenComparingInt(f -> f);
        };
        tell(preorder(t, n, order).stream().mapToLong(f -> f).toArray());
        return row.size();
    }

    int finds(int c) {
        String s = text;
        text = "";
        int p = s.startsWith("~") ? 1 : 0;
        int at = p;
        List<int[]> steps = new ArrayList<>();
        while (p < s.length()) {
            if (s.charAt(p) != '/') {
                return -1 - p;
            }
            p++;
            if (p == s.length() || "0123456789".indexOf(s.charAt(p)) < 0) {
                return -1 - p;
            }
            int[] step = {s.charAt(p) - '0', 0};
            p++;
            if (p < s.length() && s.charAt(p) == '.') {
                p++;
                if (p == s.length() || "123456789".indexOf(s.charAt(p)) < 0) {
                    return -1 - p;
                }
                int from = p;
                p++;
                if (p < s.length() && "0123456789".indexOf(s.charAt(p)) >= 0) {
                    p++;
                }
                step[1] = Integer.parseInt(s.substring(from, p));
            }
            steps.add(step);
        }
        if (!copy(c)) {
            return -101;
        }
        Map<Integer, Move> t = tree(c);
        for (int[] step : steps) {
            int next = -100;
            for (int f : children(t, at)) {
                if (t.get(f).name == step[0] && rank(t, f) == step[1]) {
                    next = f;
                }
            }
            if (next < 0) {
                return -100;
            }
            at = next;
        }
        return at;
    }

    int path(int c, int n) {
        if (ask(c, n) < 0) {
            return ask(c, n);
        }
        Map<Integer, Move> t = tree(c);
        String s = "";
        for (int f : chain(t, n)) {
            if (f >= 2) {
                s = "/" + t.get(f).name + (rank(t, f) == 0 ? "" : "." + rank(t, f)) + s;
            } else if (f == 1) {
                s = "~" + s;
            }
        }
        tell(s.chars().mapToLong(k -> k).toArray());
        return s.length();
    }

    int apart(int a, int b) {
        if (!two(a, b)) {
            return -1;
        }
        int set = other(tree(a), tree(b));
        tell(set);
        return Integer.bitCount(set);
    }

    int late(int from, int to) {
        if (!two(from, to)) {
            return -1;
        }
        if (way(from, to).isEmpty()) {
            return -2;
        }
        Model m = state();
        int undone = m.next(from, to);
        row = m.row;
        return undone;
    }

    int then(int c) {
        if (!copy(c)) {
            return -1;
        }
        Model m = state();
        m.takeAll(c);
        Map<Integer, Move> t = m.tree(c);
        long[] parents = new long[12];
        for (int f = 2; f < 14; f++) {
            parents[f - 2] = t.containsKey(f) ? t.get(f).parent : -1;
        }
        tell(parents);
        return t.size();
    }

    int worst(int c) {
        if (!copy(c)) {
            return -1;
        }
        if (waiting(c) == 0) {
            return -2;
        }
        int[] bounds = {1 << 30, -1};
        List<Mail> one = new ArrayList<>(way((c + 1) % 3, c));
        List<Mail> two = new ArrayList<>(way((c + 2) % 3, c));
        tryOrders(new ArrayList<>(sites[c].log()), one, two, 0, bounds);
        tell(bounds[0], undoneAtOnce(c));
        return bounds[1];
    }

    /** All orders, one by one. */
    static void tryOrders(List<Move> log, List<Mail> one, List<Mail> two, int undone, int[] bounds) {
        if (one.isEmpty() && two.isEmpty()) {
            bounds[0] = Math.min(bounds[0], undone);
            bounds[1] = Math.max(bounds[1], undone);
            return;
        }
        if (!one.isEmpty()) {
            Move m = one.get(0).move;
            List<Move> more = new ArrayList<>(log);
            int cost = 0;
            if (m != null) {
                cost = (int) log.stream().filter(o -> BY_STAMP.compare(o, m) > 0).count();
                more.add(m);
            }
            tryOrders(more, one.subList(1, one.size()), two, undone + cost, bounds);
        }
        if (!two.isEmpty()) {
            Move m = two.get(0).move;
            List<Move> more = new ArrayList<>(log);
            int cost = 0;
            if (m != null) {
                cost = (int) log.stream().filter(o -> BY_STAMP.compare(o, m) > 0).count();
                more.add(m);
            }
            tryOrders(more, one, two.subList(1, two.size()), undone + cost, bounds);
        }
    }

    int frees(int c, int i) {
        if (!copy(c) || i < 0 || i >= sites[c].log().size()) {
            return -1;
        }
        Move asked = sites[c].log().get(i);
        if (!sites[c].built().voids.contains(asked)) {
            return -2;
        }
        int set = 0;
        for (int j = 0; j < sites[c].log().size(); j++) {
            if (j != i && !build(sites[c].moves, sites[c].log().get(j)).voids.contains(asked)) {
                set |= 1 << j;
            }
        }
        tell(Integer.bitCount(set));
        return set;
    }

    static String look(Map<Integer, Move> t) {
        StringBuilder s = new StringBuilder();
        t.forEach((f, m) -> s.append(f).append(':').append(m.parent).append(':').append(m.name).append(' '));
        return s.toString();
    }

    int idle(int c) {
        if (!copy(c)) {
            return -1;
        }
        int set = 0;
        for (int j = 0; j < sites[c].log().size(); j++) {
            if (look(build(sites[c].moves, sites[c].log().get(j)).entries).equals(look(tree(c)))) {
                set |= 1 << j;
            }
        }
        tell(Integer.bitCount(set));
        return set;
    }

    Map<Integer, Move> after(int c, int from, int n, int otherFrom, int otherN) {
        Site s = sites[c].copy();
        way(from, c).stream().limit(n).forEach(mail -> s.take(from, mail));
        way(otherFrom, c).stream().limit(otherN).forEach(mail -> s.take(otherFrom, mail));
        return s.built().entries;
    }

    int nearest(int one, int two) {
        if (!two(one, two)) {
            return -1;
        }
        int third = 3 - one - two;
        int[] best = null;
        for (int a = 0; a <= way(one, two).size(); a++) {
            for (int d = 0; d <= way(third, two).size(); d++) {
                Map<Integer, Move> second = after(two, one, a, third, d);
                for (int b = 0; b <= way(two, one).size(); b++) {
                    for (int c = 0; c <= way(third, one).size(); c++) {
                        int[] now = {a + b + c + d, a, b, c, d};
                        if ((best == null || Arrays.compare(now, best) < 0)
                            && other(after(one, two, b, third, c), second) == 0) {
                            best = now;
                        }
                    }
                }
            }
        }
        if (best == null) {
            return -2;
        }
        tell(best[1], best[2], best[3], best[4]);
        return best[0];
    }

    private long r;

    int draw(int n) {
        r = (r * 1103515245L + 12345L) & 0xFFFFFFFFL;
        return (int) (r / 65536 % n);
    }

    int years(int seed, int n) {
        if (n < 1 || n > 40) {
            return -1;
        }
        Model m = state();
        m.r = seed & 0xFFFFFFFFL;
        for (int i = 0; i < n; i++) {
            switch (m.draw(8)) {
                case 0, 1, 2 -> {
                    int c = m.draw(3);
                    int f = m.draw(12) + 2;
                    int p = m.draw(14);
                    int name = m.draw(10);
                    m.makes(c, f, p, name);
                }
                case 3 -> m.beats(m.draw(3));
                case 4, 5 -> {
                    int from = m.draw(3);
                    int to = m.draw(3);
                    m.comes(from, to);
                }
                case 6 -> m.gathers(m.draw(3));
                default -> m.cuts(m.draw(3));
            }
        }
        tell(other(m.tree(0), m.tree(1)), m.count(5), m.stableOf(0), m.count(6));
        return m.count(0) + m.count(1) + m.count(2);
    }

    boolean keep(int i) {
        if (i < 0 || i > 1) {
            return false;
        }
        kept[i] = state();
        return true;
    }

    boolean again(int i) {
        if (i < 0 || i > 1 || kept[i] == null) {
            return false;
        }
        become(kept[i]);
        return true;
    }

    int count(int what) {
        return switch (what) {
            case 0, 1, 2 -> sites[what].log().size();
            case 3, 4, 5 -> tree(what - 3).keySet().stream().mapToInt(f -> 1 << f).sum();
            case 6 -> waiting(0) + waiting(1) + waiting(2);
            case 7 -> row.size();
            case 8 -> text.length();
            case 9 -> Arrays.stream(sites).mapToInt(s -> s.time).max().getAsInt();
            default -> -1;
        };
    }

    long row(int i) {
        if (i < 0 || i >= row.size()) {
            throw new NoSuchElementException();
        }
        return row.get(i);
    }
}
