import java.util.NoSuchElementException;

/**
 * A tree of folders that three copies move about at the same time, far from one another.
 * The words in capitals are those of the document's Terms.
 */
public final class FarFolders {
    public static final int NONE = -1;

    private static final int COPIES = 3;
    private static final int TRASH = 1;
    private static final int FIRST_FOLDER = 2;
    private static final int NODES = 14;
    private static final int NAMES = 10;
    private static final int LOG_MOST = 20;
    private static final int WAY_MOST = 6;
    /** A LOG with all that can wait for its COPY, for the questions to which a full LOG is all the same. */
    private static final int LOG_ROOM = LOG_MOST + 2 * WAY_MOST;
    /** So many numbers of LETTERS that have come on one way are there: 0 .. 6. */
    private static final int COME = WAY_MOST + 1;
    private static final int TEXT_MOST = 80;
    private static final int ROW_ROOM = 80;
    private static final int YEARS_MOST = 40;
    private static final int KEPT = 2;

    private static final int LOG_FULL = -2;
    private static final int WAY_FULL = -3;
    private static final int NO_LETTER = -2;
    private static final int NO_ROOM = -3;
    private static final int NOT_THERE = -2;
    private static final int NO_MEETING = -3;
    private static final int NOT_VOID = -2;
    private static final int NEVER = -2;
    private static final int NO_SUCH_PLACE = -100;
    private static final int NO_SUCH_COPY = -101;
    /** More than anything that is counted here. */
    private static final int TOO_MANY = 1 << 30;

    private final World world = new World();
    /** What questions try things out in, so that they change nothing. */
    private final World trial = new World();
    private final World[] kept = new World[KEPT];
    private final boolean[] isKept = new boolean[KEPT];
    private final Row row = new Row();
    private final Text text = new Text();
    private final Tree before = new Tree();
    private final Orders orders = new Orders();
    private final Meeting meeting = new Meeting();
    private int drawn;

    public FarFolders() {
        for (int i = 0; i < KEPT; i++) {
            kept[i] = new World();
        }
    }

    public int sign(int v) {
        return text.addFour(v) ? text.size : NONE;
    }

    public boolean end(int n) {
        return text.keepFirst(n);
    }

    public int entry(int copy, int folder, int what) throws NoSuchElementException {
        if (!isCopy(copy) || !isFolder(folder)) {
            throw new NoSuchElementException();
        }
        Tree tree = world.copies[copy].tree;
        if (!tree.isThere(folder)) {
            throw new NoSuchElementException();
        }
        long place = tree.entries[folder];
        switch (what) {
            case 0: return Letter.parent(place);
            case 1: return Letter.name(place);
            case 2: return tree.rankOf(folder);
            case 3: return Letter.time(place);
            case 4: return Letter.sender(place);
            default: throw new NoSuchElementException();
        }
    }

    public int move(int copy, int i, int what) throws NoSuchElementException {
        if (!isCopy(copy) || !world.copies[copy].hasMove(i)) {
            throw new NoSuchElementException();
        }
        long found = world.copies[copy].log.at(i);
        switch (what) {
            case 0: return Letter.time(found);
            case 1: return Letter.sender(found);
            case 2: return Letter.folder(found);
            case 3: return Letter.parent(found);
            case 4: return Letter.name(found);
            case 5: return world.copies[copy].voidMoves >>> i & 1;
            default: throw new NoSuchElementException();
        }
    }

    public int makes(int copy, int folder, int parent, int name) {
        if (!isCopy(copy)) {
            return NONE;
        }
        int time = world.make(copy, folder, parent, name);
        if (time >= 0) {
            Copy maker = world.copies[copy];
            row.tell(maker.voidMoves >>> (maker.log.size - 1) & 1);
        }
        return time;
    }

    public int beats(int copy) {
        return world.beat(copy);
    }

    public int comes(int from, int to) {
        if (!areTwoCopies(from, to)) {
            return NONE;
        }
        before.copyFrom(world.copies[to].tree);
        int undone = world.deliver(from, to);
        if (undone >= 0) {
            row.tell(before.otherThan(world.copies[to].tree));
        }
        return undone;
    }

    public int gathers(int copy) {
        if (!isCopy(copy)) {
            return NONE;
        }
        before.copyFrom(world.copies[copy].tree);
        int undone = world.undoneAtOnce(copy);
        int come = world.gather(copy);
        if (come >= 0) {
            row.tell(undone);
            row.add(before.otherThan(world.copies[copy].tree));
        }
        return come;
    }

    public int cuts(int copy) {
        return world.cut(copy);
    }

    public int day() {
        int wrong = wrongSignOfDay();
        if (wrong >= 0) {
            text.clear();
            return -1 - wrong;
        }
        int done = 0;
        int refused = 0;
        for (int p = 0; p < text.size && refused == 0; p += Math.max(signsOfAct(text.at(p)), 1)) {
            if (doAct(p) < 0) {
                refused = 1;
            } else {
                done++;
            }
        }
        text.clear();
        row.tell(refused);
        return done;
    }

    public int letters(int from, int to) {
        if (!areTwoCopies(from, to)) {
            return NONE;
        }
        Series way = world.way(from, to);
        row.clear();
        for (int i = 0; i < way.size; i++) {
            row.add(Letter.time(way.at(i)));
        }
        return way.size;
    }

    public int stable(int copy) {
        if (!isCopy(copy)) {
            return NONE;
        }
        Copy asked = world.copies[copy];
        row.tell(asked.time);
        row.add(asked.stableMoves());
        return asked.stableTime();
    }

    public int voids(int copy) {
        return isCopy(copy) ? tellSet(world.copies[copy].voidMoves) : NONE;
    }

    public int below(int copy, int node) {
        int refusal = refusalOf(copy, node);
        if (refusal < 0) {
            return refusal;
        }
        Tree tree = world.copies[copy].tree;
        row.tell(Integer.bitCount(tree.allWithin(node)) - 1);
        return tree.childrenOf(node);
    }

    public int depth(int copy, int node) {
        int refusal = refusalOf(copy, node);
        if (refusal < 0) {
            return refusal;
        }
        Tree tree = world.copies[copy].tree;
        int steps = tree.stepsUp(node);
        row.tell(tree.up(node, steps));
        return steps;
    }

    public int meets(int copy, int one, int other) {
        if (!isCopy(copy) || !isNode(one) || !isNode(other)) {
            return NONE;
        }
        Tree tree = world.copies[copy].tree;
        if (!tree.isThere(one) || !tree.isThere(other)) {
            return NOT_THERE;
        }
        int steps = tree.stepsUp(one);
        for (int i = 0; i <= steps; i++) {
            int above = tree.up(one, i);
            if (tree.liesWithin(other, above)) {
                return above;
            }
        }
        return NO_MEETING;
    }

    public int places(int copy, int folder) {
        if (!isCopy(copy) || !isFolder(folder)) {
            return NONE;
        }
        Tree tree = world.copies[copy].tree;
        int found = 0;
        for (int node = 0; node < NODES; node++) {
            if (tree.isThere(node) && !tree.liesWithin(node, folder)) {
                found |= 1 << node;
            }
        }
        return found;
    }

    public int total(int copy, int node, int what) {
        if (what < 0 || what > 5) {
            return NONE;
        }
        int refusal = refusalOf(copy, node);
        if (refusal < 0) {
            return refusal;
        }
        Tree tree = world.copies[copy].tree;
        switch (what) {
            case 0: return Integer.bitCount(tree.allWithin(node));
            case 1: return tree.leavesWithin(node);
            case 2: return tree.stepsDown(node);
            case 3: return tree.latestWithin(node);
            case 4: return tree.rankedWithin(node);
            default: return Tree.weigh(tree, node, 0);
        }
    }

    public int lists(int copy, int node, int how) {
        if (how < 0 || how > 3) {
            return NONE;
        }
        int refusal = refusalOf(copy, node);
        if (refusal < 0) {
            return refusal;
        }
        row.clear();
        listBelow(world.copies[copy].tree, row, node, how, 0);
        return row.size;
    }

    public int finds(int copy) {
        int wrong = wrongSignOfPath();
        int found;
        if (wrong >= 0) {
            found = -1 - wrong;
        } else if (!isCopy(copy)) {
            found = NO_SUCH_COPY;
        } else {
            found = nodeAtPath(world.copies[copy].tree);
        }
        text.clear();
        return found;
    }

    public int path(int copy, int node) {
        int refusal = refusalOf(copy, node);
        if (refusal < 0) {
            return refusal;
        }
        Tree tree = world.copies[copy].tree;
        int steps = tree.stepsUp(node);
        row.clear();
        if (tree.up(node, steps) == TRASH) {
            row.add('~');
        }
        for (int i = steps - 1; i >= 0; i--) {
            addStep(tree, tree.up(node, i));
        }
        return row.size;
    }

    public int apart(int one, int other) {
        if (!areTwoCopies(one, other)) {
            return NONE;
        }
        int others = world.copies[one].tree.otherThan(world.copies[other].tree);
        row.tell(others);
        return Integer.bitCount(others);
    }

    public int late(int from, int to) {
        if (!areTwoCopies(from, to)) {
            return NONE;
        }
        if (world.way(from, to).size == 0) {
            return NO_LETTER;
        }
        trial.copyFrom(world);
        int undone = trial.takeNext(from, to);
        row.tell(world.copies[to].tree.otherThan(trial.copies[to].tree));
        return undone;
    }

    public int then(int copy) {
        if (!isCopy(copy)) {
            return NONE;
        }
        trial.copyFrom(world);
        trial.takeAll(copy);
        Tree tree = trial.copies[copy].tree;
        row.clear();
        for (int folder = FIRST_FOLDER; folder < NODES; folder++) {
            row.add(tree.isThere(folder) ? Letter.parent(tree.entries[folder]) : NONE);
        }
        return Integer.bitCount(tree.folders());
    }

    public int worst(int copy) {
        if (!isCopy(copy)) {
            return NONE;
        }
        if (world.waitingFor(copy) == 0) {
            return NO_LETTER;
        }
        Series one = world.way(nextCopy(copy), copy);
        Series other = world.way(nextCopy(nextCopy(copy)), copy);
        orders.weighAll(world.copies[copy].log, one, other);
        int last = Orders.place(one.size, other.size);
        row.tell(orders.least[last]);
        row.add(world.undoneAtOnce(copy));
        return orders.most[last];
    }

    public int frees(int copy, int i) {
        if (!isCopy(copy) || !world.copies[copy].hasMove(i)) {
            return NONE;
        }
        Copy asked = world.copies[copy];
        if ((asked.voidMoves >>> i & 1) == 0) {
            return NOT_VOID;
        }
        int found = 0;
        for (int j = 0; j < i; j++) {
            if ((before.rebuild(asked.base, asked.log, j) >>> i & 1) == 0) {
                found |= 1 << j;
            }
        }
        return tellSet(found);
    }

    public int idle(int copy) {
        if (!isCopy(copy)) {
            return NONE;
        }
        Copy asked = world.copies[copy];
        int found = 0;
        for (int j = 0; j < asked.log.size; j++) {
            before.rebuild(asked.base, asked.log, j);
            if (before.looksAs(asked.tree)) {
                found |= 1 << j;
            }
        }
        return tellSet(found);
    }

    public int nearest(int one, int other) {
        if (!areTwoCopies(one, other)) {
            return NONE;
        }
        int key = meeting.search(world, one, other);
        if (key < 0) {
            return NEVER;
        }
        row.clear();
        for (int place = 0; place < 4; place++) {
            row.add(Meeting.lettersOn(key, place));
        }
        return Meeting.allLetters(key);
    }

    public int years(int seed, int n) {
        if (n < 1 || n > YEARS_MOST) {
            return NONE;
        }
        trial.copyFrom(world);
        drawn = seed;
        for (int i = 0; i < n; i++) {
            drawAct();
        }
        row.tell(trial.copies[0].tree.otherThan(trial.copies[1].tree));
        row.add(trial.copies[2].tree.folders());
        row.add(trial.copies[0].stableTime());
        row.add(trial.waiting());
        return trial.copies[0].log.size + trial.copies[1].log.size + trial.copies[2].log.size;
    }

    public boolean keep(int i) {
        if (i < 0 || i >= KEPT) {
            return false;
        }
        kept[i].copyFrom(world);
        isKept[i] = true;
        return true;
    }

    public boolean again(int i) {
        if (i < 0 || i >= KEPT || !isKept[i]) {
            return false;
        }
        world.copyFrom(kept[i]);
        return true;
    }

    public int count(int what) {
        if (what >= 0 && what < COPIES) {
            return world.copies[what].log.size;
        }
        if (what >= COPIES && what < 2 * COPIES) {
            return world.copies[what - COPIES].tree.folders();
        }
        switch (what) {
            case 6: return world.waiting();
            case 7: return row.size;
            case 8: return text.size;
            case 9: return world.latestTime();
            default: return NONE;
        }
    }

    public long row(int i) throws NoSuchElementException {
        if (!row.has(i)) {
            throw new NoSuchElementException();
        }
        return row.numbers[i];
    }

    private static boolean isCopy(int copy) {
        return copy >= 0 && copy < COPIES;
    }

    private static boolean isNode(int node) {
        return node >= 0 && node < NODES;
    }

    private static boolean isFolder(int node) {
        return node >= FIRST_FOLDER && node < NODES;
    }

    private static boolean areTwoCopies(int one, int other) {
        return isCopy(one) && isCopy(other) && one != other;
    }

    private static int nextCopy(int copy) {
        return copy == COPIES - 1 ? 0 : copy + 1;
    }

    /** What a question about a NODE at a COPY answers if it is refused, else 0. */
    private int refusalOf(int copy, int node) {
        if (!isCopy(copy) || !isNode(node)) {
            return NONE;
        }
        return world.copies[copy].tree.isThere(node) ? 0 : NOT_THERE;
    }

    private int tellSet(int set) {
        row.tell(Integer.bitCount(set));
        return set;
    }

    private int wrongSignOfDay() {
        for (int p = 0; p < text.size; p += Math.max(signsOfAct(text.at(p)), 1)) {
            int signs = signsOfAct(text.at(p));
            if (signs == 0) {
                return p;
            }
            for (int k = 1; k < signs; k++) {
                if (!canStand(text.at(p), k, text.at(p + k))) {
                    return p + k;
                }
            }
        }
        return NONE;
    }

    /** How many signs an ACT has that begins with a sign; 0 if none does. */
    private static int signsOfAct(int first) {
        switch (first) {
            case 'm': return 5;
            case 'c': return 3;
            case 'b':
            case 'g':
            case 'x': return 2;
            default: return 0;
        }
    }

    private static boolean canStand(int first, int k, int sign) {
        if (first != 'm' || k == 1) {
            return sign >= '0' && sign <= '2';
        }
        switch (k) {
            case 2: return isFolder(nodeOfSign(sign));
            case 3: return isNode(nodeOfSign(sign));
            default: return sign >= '0' && sign <= '9';
        }
    }

    private static int nodeOfSign(int sign) {
        if (sign == '/') {
            return 0;
        }
        if (sign == '~') {
            return TRASH;
        }
        return sign >= 'a' && sign <= 'l' ? sign - 'a' + FIRST_FOLDER : NONE;
    }

    /** Does the ACT that begins at p: what it answers. */
    private int doAct(int p) {
        int copy = text.at(p + 1) - '0';
        switch (text.at(p)) {
            case 'm':
                return world.make(copy, nodeOfSign(text.at(p + 2)), nodeOfSign(text.at(p + 3)), text.at(p + 4) - '0');
            case 'b': return world.beat(copy);
            case 'c': return world.deliver(copy, text.at(p + 2) - '0');
            case 'g': return world.gather(copy);
            case 'x': return world.cut(copy);
            default: return NONE;
        }
    }

    private int wrongSignOfPath() {
        int p = firstStep();
        for (int steps = 0; p < text.size && steps < TEXT_MOST; steps++) {
            int behind = behindStep(p);
            if (behind < 0) {
                return -1 - behind;
            }
            p = behind;
        }
        return NONE;
    }

    private int firstStep() {
        return text.at(0) == '~' ? 1 : 0;
    }

    /** Where the STEP that begins at p has ended; -1 - q if the sign at q can't stand there. */
    private int behindStep(int p) {
        if (text.at(p) != '/') {
            return -1 - p;
        }
        if (!text.isDigit(p + 1)) {
            return -2 - p;
        }
        if (text.at(p + 2) != '.') {
            return p + 2;
        }
        if (!text.isDigit(p + 3) || text.at(p + 3) == '0') {
            return -4 - p;
        }
        return text.isDigit(p + 4) ? p + 5 : p + 4;
    }

    private int nodeAtPath(Tree tree) {
        int node = text.at(0) == '~' ? TRASH : 0;
        int p = firstStep();
        while (p < text.size && node >= 0) {
            int behind = Math.max(behindStep(p), p + 1);
            node = tree.childWith(node, text.at(p + 1) - '0', text.number(p + 3, behind));
            p = behind;
        }
        return node >= 0 ? node : NO_SUCH_PLACE;
    }

    private void addStep(Tree tree, int folder) {
        row.add('/');
        row.add('0' + Letter.name(tree.entries[folder]));
        int rank = tree.rankOf(folder);
        if (rank > 0) {
            row.add('.');
        }
        if (rank > 9) {
            row.add('0' + rank / 10);
        }
        if (rank > 0) {
            row.add('0' + rank % 10);
        }
    }

    private static void listBelow(Tree tree, Row row, int node, int how, int level) {
        if (level > NODES) {
            return;
        }
        int left = tree.childrenOf(node);
        for (int i = Integer.bitCount(left); i > 0; i--) {
            int next = firstOf(tree, left, how);
            left &= ~(1 << next);
            row.add(next);
            listBelow(tree, row, next, how, level + 1);
        }
    }

    private static int firstOf(Tree tree, int set, int how) {
        int first = 0;
        for (int folder = FIRST_FOLDER; folder < NODES; folder++) {
            if ((set >>> folder & 1) == 1 && (first == 0 || standsAhead(tree, folder, first, how))) {
                first = folder;
            }
        }
        return first;
    }

    /** Of two FOLDERS in one place, the first with the greater number: does it come ahead all the same? */
    private static boolean standsAhead(Tree tree, int folder, int other, int how) {
        long mine = tree.entries[folder];
        long its = tree.entries[other];
        switch (how) {
            case 1:
                // in one place and of one NAME, RANK goes by STAMP
                return Letter.name(mine) == Letter.name(its) ? mine < its : Letter.name(mine) < Letter.name(its);
            case 2:
                return mine > its;
            case 3:
                return Integer.bitCount(tree.allWithin(folder)) > Integer.bitCount(tree.allWithin(other));
            default:
                return false;
        }
    }

    private void drawAct() {
        int kind = draw(8);
        int copy = draw(3);
        switch (kind) {
            case 3:
                trial.beat(copy);
                break;
            case 4:
            case 5:
                trial.deliver(copy, draw(3));
                break;
            case 6:
                trial.gather(copy);
                break;
            case 7:
                trial.cut(copy);
                break;
            default:
                trial.make(copy, draw(12) + FIRST_FOLDER, draw(14), draw(10));
                break;
        }
    }

    private int draw(int n) {
        drawn = drawn * 1103515245 + 12345;
        return n > 0 ? (drawn >>> 16) % n : 0;
    }

    /**
     * A MOVE, or a LETTER with it, as one long: TIME, COPY, FOLDER, PARENT, NAME from the highest
     * bits down, so that the order of the longs is the order of the STAMPS. A BEAT has FOLDER 0.
     */
    private static final class Letter {
        /** FOLDER, PARENT and NAME: what a MOVE is without its STAMP. */
        static final long LOOK = 0xFFF;
        static final long BEHIND_ALL = 1L << 62;

        static long of(int time, int copy, int folder, int parent, int name) {
            return (long) time << 14 | (long) (copy << 12 | folder << 8 | parent << 4 | name);
        }

        static int time(long letter) {
            return (int) (letter >>> 14);
        }

        static int sender(long letter) {
            return (int) (letter >>> 12) & 3;
        }

        static int folder(long letter) {
            return (int) (letter >>> 8) & 15;
        }

        static int parent(long letter) {
            return (int) (letter >>> 4) & 15;
        }

        static int name(long letter) {
            return (int) letter & 15;
        }

        static boolean hasMove(long letter) {
            return folder(letter) != 0;
        }
    }

    /** LETTERS of a way, or MOVES of a LOG, one behind another. */
    private static final class Series {
        private final long[] items;
        /** Never more than items has room for: the methods here alone change it. */
        int size;

        Series(int room) {
            items = new long[Math.max(room, 0)];
        }

        long at(int i) {
            return i >= 0 && i < size && i < items.length ? items[i] : 0;
        }

        void copyFrom(Series other) {
            size = Math.min(other.size, items.length);
            System.arraycopy(other.items, 0, items, 0, size);
        }

        void clear() {
            size = 0;
        }

        void append(long letter) {
            if (size < items.length) {
                items[size] = letter;
                size++;
            }
        }

        /** Puts a MOVE where its STAMP belongs: how many stand behind it. */
        int insert(long added) {
            if (size >= items.length) {
                return 0;
            }
            int at = size;
            while (at > 0 && items[at - 1] > added) {
                items[at] = items[at - 1];
                at--;
            }
            items[at] = added;
            size++;
            return size - 1 - at;
        }

        /** How many of the first n have a MOVE with a greater STAMP. */
        int countLater(long than, int n) {
            int later = 0;
            for (int i = 0; i < n && i < size; i++) {
                if (at(i) > than && Letter.hasMove(at(i))) {
                    later++;
                }
            }
            return later;
        }

        int countMoves() {
            return countLater(NONE, size);
        }

        void insertMovesOf(Series way, int n) {
            for (int i = 0; i < n; i++) {
                if (Letter.hasMove(way.at(i))) {
                    insert(way.at(i));
                }
            }
        }

        void dropFirst(int n) {
            if (n > 0 && n <= size) {
                size -= n;
                System.arraycopy(items, n, items, 0, size);
            }
        }
    }

    private static final class Tree {
        /**
         * Of each FOLDER the MOVE that its ENTRY comes from, 0 if it is not there. There are 16, so
         * that what four bits of a MOVE tell is always an index.
         */
        final long[] entries = new long[16];

        void copyFrom(Tree other) {
            System.arraycopy(other.entries, 0, entries, 0, entries.length);
        }

        boolean isThere(int node) {
            return node < FIRST_FOLDER || entries[node & 15] != 0;
        }

        /** Does a MOVE, unless it is VOID: whether it was done. */
        boolean doMove(long asked) {
            int folder = Letter.folder(asked);
            int node = Letter.parent(asked);
            for (int steps = 0; steps < NODES; steps++) {
                if (node == folder || !isThere(node)) {
                    return false;
                }
                if (node < FIRST_FOLDER) {
                    entries[folder] = asked;
                    return true;
                }
                node = Letter.parent(entries[node]);
            }
            return false;
        }

        /** Becomes a base with all MOVES behind it but one, by its number: the bits of those that are VOID. */
        int rebuild(Tree base, Series moves, int without) {
            copyFrom(base);
            int found = 0;
            for (int i = 0; i < moves.size; i++) {
                if (i != without && !doMove(moves.at(i))) {
                    found |= 1 << i;
                }
            }
            return found;
        }

        int otherThan(Tree that) {
            int found = 0;
            for (int folder = FIRST_FOLDER; folder < NODES; folder++) {
                if (entries[folder] != that.entries[folder]) {
                    found |= 1 << folder;
                }
            }
            return found;
        }

        boolean isAs(Tree that) {
            for (int folder = FIRST_FOLDER; folder < NODES; folder++) {
                if (entries[folder] != that.entries[folder]) {
                    return false;
                }
            }
            return true;
        }

        /** Whether the FOLDERS are the same but for their STAMPS. */
        boolean looksAs(Tree that) {
            for (int folder = FIRST_FOLDER; folder < NODES; folder++) {
                if (((entries[folder] ^ that.entries[folder]) & Letter.LOOK) != 0) {
                    return false;
                }
            }
            return true;
        }

        int folders() {
            int found = 0;
            for (int folder = FIRST_FOLDER; folder < NODES; folder++) {
                if (entries[folder] != 0) {
                    found |= 1 << folder;
                }
            }
            return found;
        }

        boolean isRightBelow(int folder, int node) {
            return entries[folder & 15] != 0 && Letter.parent(entries[folder & 15]) == node;
        }

        int childrenOf(int node) {
            int found = 0;
            for (int folder = FIRST_FOLDER; folder < NODES; folder++) {
                if (isRightBelow(folder, node)) {
                    found |= 1 << folder;
                }
            }
            return found;
        }

        /** The NODE so many steps above a NODE; THE ROOT and THE TRASH have none above them. */
        int up(int node, int steps) {
            int at = node;
            for (int i = 0; i < steps && at >= FIRST_FOLDER; i++) {
                at = Letter.parent(entries[at & 15]);
            }
            return at;
        }

        int stepsUp(int node) {
            int steps = 0;
            for (int at = node; at >= FIRST_FOLDER && steps < NODES; steps++) {
                at = Letter.parent(entries[at & 15]);
            }
            return steps;
        }

        /** Whether a NODE is another one, or lies below it. */
        boolean liesWithin(int node, int top) {
            int at = node;
            for (int steps = 0; steps < NODES && at != top && at >= FIRST_FOLDER; steps++) {
                at = Letter.parent(entries[at & 15]);
            }
            return at == top;
        }

        int allWithin(int top) {
            int found = 1 << top;
            for (int folder = FIRST_FOLDER; folder < NODES; folder++) {
                if (entries[folder] != 0 && liesWithin(folder, top)) {
                    found |= 1 << folder;
                }
            }
            return found;
        }

        int rankOf(int folder) {
            long mine = entries[folder & 15];
            int rank = 0;
            for (int other = FIRST_FOLDER; other < NODES; other++) {
                if (isRightBelow(other, Letter.parent(mine)) && Letter.name(entries[other]) == Letter.name(mine)
                        && entries[other] < mine) {
                    rank++;
                }
            }
            return rank;
        }

        int childWith(int node, int name, int rank) {
            for (int folder = FIRST_FOLDER; folder < NODES; folder++) {
                if (isRightBelow(folder, node) && Letter.name(entries[folder]) == name && rankOf(folder) == rank) {
                    return folder;
                }
            }
            return NONE;
        }

        int leavesWithin(int top) {
            int all = allWithin(top);
            int leaves = 0;
            for (int node = 0; node < NODES; node++) {
                if ((all >>> node & 1) == 1 && childrenOf(node) == 0) {
                    leaves++;
                }
            }
            return leaves;
        }

        int stepsDown(int top) {
            int all = allWithin(top);
            int deepest = stepsUp(top);
            for (int node = FIRST_FOLDER; node < NODES; node++) {
                if ((all >>> node & 1) == 1) {
                    deepest = Math.max(deepest, stepsUp(node));
                }
            }
            return deepest - stepsUp(top);
        }

        int latestWithin(int top) {
            int all = allWithin(top);
            int latest = 0;
            for (int node = FIRST_FOLDER; node < NODES; node++) {
                if ((all >>> node & 1) == 1) {
                    latest = Math.max(latest, Letter.time(entries[node]));
                }
            }
            return latest;
        }

        int rankedWithin(int top) {
            int all = allWithin(top);
            int ranked = 0;
            for (int node = FIRST_FOLDER; node < NODES; node++) {
                if ((all >>> node & 1) == 1 && rankOf(node) > 0) {
                    ranked++;
                }
            }
            return ranked;
        }

        /** W of a NODE, as promise 19 tells it. */
        private static int weigh(Tree tree, int node, int level) {
            int weight = node < FIRST_FOLDER ? 0 : Letter.name(tree.entries[node & 15]);
            if (level > NODES) {
                return weight;
            }
            for (int folder = FIRST_FOLDER; folder < NODES; folder++) {
                if (tree.isRightBelow(folder, node)) {
                    weight = 3 * weight + weigh(tree, folder, level + 1);
                }
            }
            return weight;
        }
    }

    private static final class Copy {
        private final int number;
        int time;
        final int[] heard = new int[COPIES];
        final Series log = new Series(LOG_ROOM);
        /** The tree of the MOVES that were cut off the LOG. */
        final Tree base = new Tree();
        final Tree tree = new Tree();
        int voidMoves;

        Copy(int number) {
            this.number = number;
        }

        void copyFrom(Copy other) {
            time = other.time;
            System.arraycopy(other.heard, 0, heard, 0, heard.length);
            log.copyFrom(other.log);
            base.copyFrom(other.base);
            tree.copyFrom(other.tree);
            voidMoves = other.voidMoves;
        }

        boolean hasMove(int i) {
            return i >= 0 && i < log.size;
        }

        int stableTime() {
            return Math.min(heard[nextCopy(number)], heard[nextCopy(nextCopy(number))]);
        }

        /** How many MOVES of the LOG, the first ones, have TIME at most STABLE. */
        int stableMoves() {
            int limit = stableTime();
            int moves = 0;
            while (moves < log.size && Letter.time(log.at(moves)) <= limit) {
                moves++;
            }
            return moves;
        }

        void hear(int from, long letter) {
            if (from >= 0 && from < heard.length) {
                heard[from] = Letter.time(letter);
            }
            time = Math.max(time, Letter.time(letter));
        }

        int dropStable() {
            int moves = stableMoves();
            for (int i = 0; i < moves; i++) {
                base.doMove(log.at(i));
            }
            log.dropFirst(moves);
            voidMoves >>>= moves;
            return moves;
        }
    }

    /** All that the first of the document's Terms tells of. */
    private static final class World {
        final Copy[] copies = new Copy[COPIES];
        private final Series[] ways = new Series[COPIES * COPIES];

        World() {
            for (int copy = 0; copy < COPIES; copy++) {
                copies[copy] = new Copy(copy);
            }
            for (int i = 0; i < ways.length; i++) {
                ways[i] = new Series(WAY_MOST);
            }
        }

        void copyFrom(World other) {
            for (int copy = 0; copy < COPIES; copy++) {
                copies[copy].copyFrom(other.copies[copy]);
            }
            for (int i = 0; i < ways.length; i++) {
                ways[i].copyFrom(other.ways[i]);
            }
        }

        /** Of two COPIES that are; the way from one to itself stays empty. */
        Series way(int from, int to) {
            return ways[from * COPIES + to];
        }

        int waitingFor(int copy) {
            int letters = 0;
            for (int from = 0; from < COPIES; from++) {
                letters += way(from, copy).size;
            }
            return letters;
        }

        int waiting() {
            return waitingFor(0) + waitingFor(1) + waitingFor(2);
        }

        int latestTime() {
            return Math.max(copies[0].time, Math.max(copies[1].time, copies[2].time));
        }

        int make(int copy, int folder, int parent, int name) {
            if (!isCopy(copy) || !isFolder(folder) || !isNode(parent) || name < 0 || name >= NAMES) {
                return NONE;
            }
            Copy maker = copies[copy];
            if (maker.log.size >= LOG_MOST) {
                return LOG_FULL;
            }
            if (hasFullWay(copy)) {
                return WAY_FULL;
            }
            maker.time++;
            long made = Letter.of(maker.time, copy, folder, parent, name);
            // no STAMP here is as great, so nothing has to be undone
            if (!maker.tree.doMove(made)) {
                maker.voidMoves |= 1 << maker.log.size;
            }
            maker.log.append(made);
            send(copy, made);
            return maker.time;
        }

        int beat(int copy) {
            if (!isCopy(copy)) {
                return NONE;
            }
            if (hasFullWay(copy)) {
                return WAY_FULL;
            }
            send(copy, Letter.of(copies[copy].time, copy, 0, 0, 0));
            return copies[copy].time;
        }

        private boolean hasFullWay(int copy) {
            return way(copy, nextCopy(copy)).size >= WAY_MOST || way(copy, nextCopy(nextCopy(copy))).size >= WAY_MOST;
        }

        private void send(int copy, long letter) {
            way(copy, nextCopy(copy)).append(letter);
            way(copy, nextCopy(nextCopy(copy))).append(letter);
        }

        int deliver(int from, int to) {
            if (!areTwoCopies(from, to)) {
                return NONE;
            }
            Series way = way(from, to);
            if (way.size == 0) {
                return NO_LETTER;
            }
            if (Letter.hasMove(way.at(0)) && copies[to].log.size >= LOG_MOST) {
                return NO_ROOM;
            }
            return takeNext(from, to);
        }

        /** The next LETTER comes, if the LOG is full or not: how many MOVES are UNDONE. */
        int takeNext(int from, int to) {
            Series way = way(from, to);
            Copy taker = copies[to];
            long letter = way.at(0);
            way.dropFirst(1);
            taker.hear(from, letter);
            if (!Letter.hasMove(letter)) {
                return 0;
            }
            int undone = taker.log.insert(letter);
            taker.voidMoves = taker.tree.rebuild(taker.base, taker.log, NONE);
            return undone;
        }

        int gather(int copy) {
            if (!isCopy(copy)) {
                return NONE;
            }
            int letters = waitingFor(copy);
            if (letters == 0) {
                return NO_LETTER;
            }
            int moves = copies[copy].log.size;
            for (int from = 0; from < COPIES; from++) {
                moves += way(from, copy).countMoves();
            }
            if (moves > LOG_MOST) {
                return NO_ROOM;
            }
            takeAll(copy);
            return letters;
        }

        /** All LETTERS come at once, if the LOG has room for them or not. */
        void takeAll(int copy) {
            Copy taker = copies[copy];
            for (int from = 0; from < COPIES; from++) {
                Series way = way(from, copy);
                if (way.size > 0) {
                    taker.hear(from, way.at(way.size - 1));
                    taker.log.insertMovesOf(way, way.size);
                    way.clear();
                }
            }
            taker.voidMoves = taker.tree.rebuild(taker.base, taker.log, NONE);
        }

        /** How many MOVES of the LOG are UNDONE if all LETTERS come at once. */
        int undoneAtOnce(int copy) {
            long least = Letter.BEHIND_ALL;
            for (int from = 0; from < COPIES; from++) {
                Series way = way(from, copy);
                for (int i = 0; i < way.size; i++) {
                    if (Letter.hasMove(way.at(i))) {
                        least = Math.min(least, way.at(i));
                    }
                }
            }
            return copies[copy].log.countLater(least, copies[copy].log.size);
        }

        int cut(int copy) {
            return isCopy(copy) ? copies[copy].dropStable() : NONE;
        }
    }

    /** How many MOVES are UNDONE, by how many LETTERS have come on each of two ways. */
    private static final class Orders {
        final int[] least = new int[COME * COME];
        final int[] most = new int[COME * COME];

        /** Always an index, as no way has more than six. */
        static int place(int i, int j) {
            return Math.min(i, WAY_MOST) * COME + Math.min(j, WAY_MOST);
        }

        void weighAll(Series log, Series one, Series other) {
            for (int i = 0; i <= one.size; i++) {
                for (int j = 0; j <= other.size; j++) {
                    int here = place(i, j);
                    least[here] = i + j == 0 ? 0 : TOO_MANY;
                    most[here] = 0;
                    if (i > 0) {
                        step(place(i - 1, j), here, undoneBy(one.at(i - 1), log, other, j));
                    }
                    if (j > 0) {
                        step(place(i, j - 1), here, undoneBy(other.at(j - 1), log, one, i));
                    }
                }
            }
        }

        private void step(int from, int to, int undone) {
            least[to] = Math.min(least[to], least[from] + undone);
            most[to] = Math.max(most[to], most[from] + undone);
        }

        /** What came ahead on the LETTER's own way has lesser STAMPS, so only the other way counts. */
        private static int undoneBy(long letter, Series log, Series way, int come) {
            return Letter.hasMove(letter) ? log.countLater(letter, log.size) + way.countLater(letter, come) : 0;
        }
    }

    /**
     * The search for the fewest LETTERS till two trees are as one. What has come is told as a key:
     * how many LETTERS in all, then how many on each way, as digits, so that the least key is due.
     */
    private static final class Meeting {
        private final Tree[] trees = new Tree[COME * COME];
        private final Tree tree = new Tree();
        private final Series moves = new Series(LOG_ROOM);
        private int best;

        Meeting() {
            for (int i = 0; i < trees.length; i++) {
                trees[i] = new Tree();
            }
        }

        private static int key(int a, int b, int c, int d) {
            return ((((a + b + c + d) * COME + a) * COME + b) * COME + c) * COME + d;
        }

        static int allLetters(int key) {
            return key / (COME * COME * COME * COME);
        }

        /** How many LETTERS have come on way 0 .. 3: a, b, c, d of the key. */
        static int lettersOn(int key, int way) {
            int rest = key;
            for (int i = 3; i > way; i--) {
                rest /= COME;
            }
            return rest % COME;
        }

        /** The least key; NONE if the trees never are as one. */
        int search(World world, int one, int other) {
            int third = COPIES - one - other;
            Series a = world.way(one, other);
            Series d = world.way(third, other);
            for (int i = 0; i <= a.size; i++) {
                for (int j = 0; j <= d.size; j++) {
                    grow(trees[Orders.place(i, j)], world.copies[other], a, i, d, j);
                }
            }
            best = TOO_MANY;
            Series b = world.way(other, one);
            Series c = world.way(third, one);
            for (int i = 0; i <= b.size; i++) {
                for (int j = 0; j <= c.size; j++) {
                    grow(tree, world.copies[one], b, i, c, j);
                    compare(i, j, a.size, d.size);
                }
            }
            return best == TOO_MANY ? NONE : best;
        }

        /** What the tree of a COPY is when the first LETTERS of two ways have come. */
        private void grow(Tree grown, Copy copy, Series way, int come, Series otherWay, int otherCome) {
            moves.copyFrom(copy.log);
            moves.insertMovesOf(way, come);
            moves.insertMovesOf(otherWay, otherCome);
            grown.rebuild(copy.base, moves, NONE);
        }

        private void compare(int b, int c, int aMost, int dMost) {
            for (int a = 0; a <= aMost; a++) {
                for (int d = 0; d <= dMost; d++) {
                    int key = key(a, b, c, d);
                    if (key < best && tree.isAs(trees[Orders.place(a, d)])) {
                        best = key;
                    }
                }
            }
        }
    }

    private static final class Row {
        final long[] numbers = new long[ROW_ROOM];
        int size;

        boolean has(int i) {
            return i >= 0 && i < size && i < numbers.length;
        }

        void clear() {
            size = 0;
        }

        void add(long number) {
            if (size < numbers.length) {
                numbers[size] = number;
                size++;
            }
        }

        /** A new row that begins with a number. */
        void tell(long number) {
            clear();
            add(number);
        }
    }

    private static final class Text {
        private final char[] signs = new char[TEXT_MOST];
        int size;

        void clear() {
            size = 0;
        }

        boolean keepFirst(int n) {
            if (n < 0 || n > size) {
                return false;
            }
            size = n;
            return true;
        }

        boolean addFour(int v) {
            if (size < 0 || size + 4 > signs.length) {
                return false;
            }
            for (int shift = 24; shift >= 0; shift -= 8) {
                signs[size] = (char) (v >>> shift & 255);
                size++;
            }
            return true;
        }

        /** The sign at p; NONE where the text has ended. */
        int at(int p) {
            return p >= 0 && p < size && p < signs.length ? signs[p] : NONE;
        }

        boolean isDigit(int p) {
            return at(p) >= '0' && at(p) <= '9';
        }

        /** The number that the digits from p on tell; 0 without any. */
        int number(int p, int behind) {
            int told = 0;
            for (int q = p; q < behind; q++) {
                told = 10 * told + at(q) - '0';
            }
            return told;
        }
    }
}
