/**
 * Boards of points and lines that hold turns of a small group. What each call promises stands in
 * the project's document; words in capitals here are that document's terms.
 */
public final class TurnBoards {
    public static final int BAD = -1, STATE = -2, FULL = -3, NONE = -4, SPENT = -6;

    private static final int MOST_TURNS = 8, MOST_POINTS = 6, MOST_LINES = 10, MOST_WALKS = 8;
    private static final int MOST_STEPS = 6, MOST_WORTH = 9, MOST_ACTS = 8, MOST_WAYS = 40000;
    private static final int SHEETS = 4, LANES = 3, MOST_CELLS = 64;
    private static final int RING = 0, FLIPS = 1, CROSSED = 2;
    private static final int NULL_FAULT = 1, INDEX_FAULT = 2, CAST_FAULT = 3, SIZE_FAULT = 4;
    /** Euclid's steps on two longs stay far below this. */
    private static final int MOST_DIVISIONS = 200;

    private final Group theGroup = new Group();
    private final Board theBoard = new Board();
    private final Walk[] theWalks = new Walk[MOST_WALKS];
    private int walksMade;
    private final Acts theActs = new Acts();
    private final Sheet[] theSheets = new Sheet[SHEETS];
    private final Sums theSums = new Sums();

    public TurnBoards() {
        for (int w = 0; w < MOST_WALKS; w++) {
            theWalks[w] = new Walk();
        }
        for (int k = 0; k < SHEETS; k++) {
            theSheets[k] = new Sheet();
        }
    }

    // ---- the group

    public int group(int kind, int n) {
        if (kind == RING && n >= 1 && n <= MOST_TURNS) {
            theGroup.draftRing(n);
            return takeDraft(n);
        }
        if (kind == FLIPS && (n == 3 || n == 4)) {
            theGroup.draftFlips(n);
            return takeDraft(2 * n);
        }
        if (kind == CROSSED && n == MOST_TURNS) {
            theGroup.draftCrossed();
            return takeDraft(n);
        }
        return BAD;
    }

    public int read(int k, int lane, int f, int n) {
        if (!isSheet(k) || !isLane(lane) || n < 1 || n > MOST_TURNS) {
            return BAD;
        }
        int fault = theSheets[k].faultAs(lane);
        if (fault == 0) {
            fault = draftFrom(theSheets[k], f, n);
        }
        if (fault == 0) {
            fault = theGroup.draftFault(n);
        }
        return fault == 0 ? takeDraft(n) : fault;
    }

    public int times(int a, int b) {
        return isTurn(a) && isTurn(b) ? theGroup.product(a, b) : BAD;
    }

    public int turn(int a, int what) {
        if (!isTurn(a)) {
            return BAD;
        }
        switch (what) {
            case 0: return theGroup.backs[a];
            case 1: return theGroup.orderOf(a);
            case 2: return theGroup.classes[a];
            case 3: return theGroup.classSize(a);
            case 4: return theGroup.worths[a];
            case 5: return theGroup.alikeWith(a);
            default: return BAD;
        }
    }

    public int about(int what) {
        switch (what) {
            case 0: return theGroup.size;
            case 1: return theGroup.classesMany();
            case 2: return theGroup.alikeWithAll();
            case 3: return theGroup.alikePairs();
            case 4: return theGroup.alikeWithAll() == theGroup.size ? 1 : 0;
            default: return BAD;
        }
    }

    public int worth(int a, int v) {
        if (!isTurn(a) || v < 0 || v > MOST_WORTH) {
            return BAD;
        }
        int was = theGroup.worths[a];
        theGroup.giveWorth(a, v);
        return was;
    }

    // ---- the board

    public int point() {
        return theBoard.points < MOST_POINTS ? theBoard.addPoint() : FULL;
    }

    public int line(int from, int to) {
        if (!isPoint(from) || !isPoint(to)) {
            return BAD;
        }
        return theBoard.lines < MOST_LINES ? theBoard.addLine(from, to) : FULL;
    }

    public int walk(int p) {
        if (!isPoint(p)) {
            return BAD;
        }
        if (walksMade >= MOST_WALKS) {
            return FULL;
        }
        theWalks[walksMade].begin(p);
        walksMade++;
        return walksMade - 1;
    }

    public int step(int w, int line, boolean back) {
        if (!isWalk(w) || !isLine(line)) {
            return BAD;
        }
        Walk walk = theWalks[w];
        int begins = back ? theBoard.tos[line] : theBoard.froms[line];
        int ends = back ? theBoard.froms[line] : theBoard.tos[line];
        if (begins != walk.end) {
            return STATE;
        }
        if (walk.steps >= MOST_STEPS) {
            return FULL;
        }
        walk.go(line, back, ends);
        return walk.steps;
    }

    public int counts(int w, boolean is) {
        if (!isWalk(w)) {
            return BAD;
        }
        int was = theWalks[w].counted ? 1 : 0;
        theWalks[w].counted = is;
        return was;
    }

    public int told(int w, int what) {
        if (!isWalk(w)) {
            return BAD;
        }
        Walk walk = theWalks[w];
        switch (what) {
            case 0: return walk.steps;
            case 1: return walk.end;
            case 2: return walk.isClosed() ? 1 : 0;
            case 3: return walk.turnWith(theBoard.turns, theGroup);
            case 4: return walk.counted ? 1 : 0;
            default: return BAD;
        }
    }

    public int drop() {
        if (walksMade <= 0) {
            return NONE;
        }
        walksMade--;
        return walksMade;
    }

    public int set(int line, int a) {
        if (!isLine(line) || !isTurn(a)) {
            return BAD;
        }
        int was = theBoard.turns[line];
        theActs.keep(theBoard.turns);
        theBoard.turns[line] = a;
        return was;
    }

    public int at(int line) {
        return isLine(line) ? theBoard.turns[line] : BAD;
    }

    public long weight() {
        long product = 1;
        for (int w = 0; w < walksMade; w++) {
            if (theWalks[w].weighs()) {
                product *= theGroup.worths[theWalks[w].turnWith(theBoard.turns, theGroup)];
            }
        }
        return product;
    }

    public int twist(int p, int a) {
        if (!isPoint(p) || !isTurn(a)) {
            return BAD;
        }
        theActs.keep(theBoard.turns);
        theBoard.shiftOnly(p, a);
        return theBoard.turnPoints(theGroup);
    }

    public int still() {
        theActs.keep(theBoard.turns);
        theBoard.shiftToStill(theGroup);
        return theBoard.turnPoints(theGroup);
    }

    public int undo() {
        return theActs.giveBack(theBoard.turns) ? theActs.kept : NONE;
    }

    public int tree(int line) {
        if (!isLine(line)) {
            return BAD;
        }
        return theBoard.inTree[line] ? 1 : 0;
    }

    // ---- sums

    public long sum() {
        return isSpent() ? SPENT : sumOfWeights();
    }

    public long sumBy(int w, int a) {
        if (!isClosedWalk(w) || !isTurn(a)) {
            return BAD;
        }
        return isSpent() ? SPENT : sumHeld(w, a);
    }

    public long mean(int w, int a, int what) {
        if (!isClosedWalk(w) || !isTurn(a) || what < 0 || what > 1) {
            return BAD;
        }
        if (isSpent()) {
            return SPENT;
        }
        long all = sumOfWeights();
        if (all == 0) {
            return STATE;
        }
        long held = sumHeld(w, a);
        long shared = commonDivisor(all, held);
        if (shared == 0) {
            return STATE;
        }
        return what == 0 ? held / shared : all / shared;
    }

    public long flat() {
        if (isSpent()) {
            return SPENT;
        }
        theSums.clear();
        for (int w = 0; w < walksMade; w++) {
            if (theWalks[w].weighs()) {
                theSums.lookForStill(w);
            }
        }
        return sumLooked();
    }

    // ---- sheets

    public int sheet(int k, int lane, int n) {
        if (!isSheet(k) || !isLane(lane) || n > MOST_CELLS) {
            return BAD;
        }
        if (n < 0) {
            return -10 - SIZE_FAULT;
        }
        theSheets[k].renew(lane, n);
        return 1;
    }

    public int lay(int k, int i, int v) {
        if (!isSheet(k)) {
            return BAD;
        }
        Sheet sheet = theSheets[k];
        if (!sheet.made) {
            return -10 - NULL_FAULT;
        }
        if (!sheet.hasCell(i)) {
            return -10 - INDEX_FAULT;
        }
        sheet.put(i, v);
        return 1;
    }

    public int fill(int k, int lane, int f) {
        if (!isSheet(k) || !isLane(lane)) {
            return BAD;
        }
        Sheet sheet = theSheets[k];
        int fault = sheet.faultAs(lane);
        if (fault == 0) {
            fault = linesFault(sheet, f);
        }
        return fault == 0 ? fillLines(sheet, f) : fault;
    }

    public int many(int what) {
        switch (what) {
            case 0: return theBoard.points;
            case 1: return theBoard.lines;
            case 2: return walksMade;
            case 3: return walksThatWeigh();
            case 4: return theBoard.points - theBoard.treeLines;
            case 5: return theBoard.treeLines;
            case 6: return theActs.kept;
            case 7: return theSheets[0].made ? theSheets[0].size : NONE;
            default: return BAD;
        }
    }

    // ---- what there is

    private boolean isTurn(int a) {
        return a >= 0 && a < theGroup.size;
    }

    private boolean isPoint(int p) {
        return p >= 0 && p < theBoard.points;
    }

    private boolean isLine(int line) {
        return line >= 0 && line < theBoard.lines;
    }

    private boolean isWalk(int w) {
        return w >= 0 && w < walksMade;
    }

    private boolean isClosedWalk(int w) {
        return isWalk(w) && theWalks[w].isClosed();
    }

    private static boolean isSheet(int k) {
        return k >= 0 && k < SHEETS;
    }

    private static boolean isLane(int lane) {
        return lane >= 0 && lane < LANES;
    }

    private int walksThatWeigh() {
        int found = 0;
        for (int w = 0; w < walksMade; w++) {
            if (theWalks[w].weighs()) {
                found++;
            }
        }
        return found;
    }

    // ---- helpers of the group's calls

    private int takeDraft(int n) {
        theGroup.adopt(n);
        theBoard.clearTurns();
        theActs.forget();
        return n;
    }

    private int draftFrom(Sheet sheet, int f, int n) {
        for (int a = 0; a < n; a++) {
            for (int b = 0; b < n; b++) {
                int i = n * a + b;
                // f + i cannot wrap: a first CELL beyond the SHEET has already ended this
                if (!sheet.hasCell(f + i)) {
                    return -10 - INDEX_FAULT;
                }
                int found = sheet.cells[f + i];
                if (found < 0 || found >= n) {
                    return -100 - i;
                }
                theGroup.draft[MOST_TURNS * a + b] = found;
            }
        }
        return 0;
    }

    // ---- helpers of the sums

    private boolean isSpent() {
        long ways = 1;
        for (int i = theBoard.treeLines; i < theBoard.lines; i++) {
            ways *= theGroup.size;
        }
        return ways > MOST_WAYS;
    }

    private long sumOfWeights() {
        theSums.clear();
        lookForWeights();
        return sumLooked();
    }

    private long sumHeld(int w, int a) {
        theSums.clear();
        lookForWeights();
        theSums.lookForClass(w, a, theGroup);
        return sumLooked();
    }

    private void lookForWeights() {
        for (int w = 0; w < walksMade; w++) {
            if (theWalks[w].weighs()) {
                theSums.lookForWorth(w, theGroup);
            }
        }
    }

    private long sumLooked() {
        theSums.markLines(theWalks, theBoard);
        return Sums.sumFrom(0, 1, theSums, theWalks, theBoard.lines, theGroup);
    }

    private static long commonDivisor(long a, long b) {
        long large = a;
        long small = b;
        for (int i = 0; i < MOST_DIVISIONS && small != 0; i++) {
            long rest = large % small;
            large = small;
            small = rest;
        }
        return large;
    }

    // ---- helpers of the sheets' calls

    private int linesFault(Sheet sheet, int f) {
        for (int i = 0; i < theBoard.lines; i++) {
            // f + i cannot wrap: a first CELL beyond the SHEET has already ended this
            if (!sheet.hasCell(f + i)) {
                return -10 - INDEX_FAULT;
            }
            if (!isTurn(sheet.cells[f + i])) {
                return -20 - i;
            }
        }
        return 0;
    }

    private int fillLines(Sheet sheet, int f) {
        int changed = 0;
        for (int i = 0; i < theBoard.lines; i++) {
            int found = sheet.cells[f + i];
            if (found != theBoard.turns[i]) {
                theActs.keep(theBoard.turns);
                theBoard.turns[i] = found;
                changed++;
            }
        }
        return changed;
    }

    /** THE GROUP, and a draft in which the next one is written before it is taken. */
    private static final class Group {
        /** Products of 1, i, j, k in rows of four; 4 more are the opposites. */
        private static final int[] UNITS = {0, 1, 2, 3, 1, 4, 3, 6, 2, 7, 4, 1, 3, 2, 5, 4};

        int size;
        final int[] draft = new int[MOST_TURNS * MOST_TURNS];
        final int[] products = new int[MOST_TURNS * MOST_TURNS];
        final int[] backs = new int[MOST_TURNS];
        final int[] classes = new int[MOST_TURNS];
        final int[] worths = new int[MOST_TURNS];

        Group() {
            draftRing(1);
            adopt(1);
        }

        void draftRing(int n) {
            for (int a = 0; a < n; a++) {
                for (int b = 0; b < n; b++) {
                    draft[MOST_TURNS * a + b] = a + b < n ? a + b : a + b - n;
                }
            }
        }

        void draftFlips(int n) {
            for (int a = 0; a < n; a++) {
                for (int b = 0; b < n; b++) {
                    int sum = a + b < n ? a + b : a + b - n;
                    int rest = a >= b ? a - b : a - b + n;
                    draft[MOST_TURNS * a + b] = sum;
                    draft[MOST_TURNS * a + n + b] = n + sum;
                    draft[MOST_TURNS * (n + a) + b] = n + rest;
                    draft[MOST_TURNS * (n + a) + n + b] = rest;
                }
            }
        }

        void draftCrossed() {
            for (int a = 0; a < MOST_TURNS; a++) {
                for (int b = 0; b < MOST_TURNS; b++) {
                    int unit = UNITS[4 * (a & 3) + (b & 3)];
                    draft[MOST_TURNS * a + b] = unit ^ (a & 4) ^ (b & 4);
                }
            }
        }

        int draftFault(int n) {
            for (int a = 0; a < n; a++) {
                if (drafted(0, a) != a || drafted(a, 0) != a) {
                    return -200 - a;
                }
            }
            for (int a = 0; a < n; a++) {
                if (!draftHasBack(a, n)) {
                    return -300 - a;
                }
            }
            return draftJoinFault(n);
        }

        private int drafted(int a, int b) {
            return draft[MOST_TURNS * a + b];
        }

        private boolean draftHasBack(int a, int n) {
            for (int b = 0; b < n; b++) {
                if (drafted(a, b) == 0 && drafted(b, a) == 0) {
                    return true;
                }
            }
            return false;
        }

        private int draftJoinFault(int n) {
            for (int a = 0; a < n; a++) {
                for (int b = 0; b < n; b++) {
                    for (int c = 0; c < n; c++) {
                        if (drafted(drafted(a, b), c) != drafted(a, drafted(b, c))) {
                            return -1000 - (64 * a + 8 * b + c);
                        }
                    }
                }
            }
            return 0;
        }

        void adopt(int n) {
            size = n;
            System.arraycopy(draft, 0, products, 0, draft.length);
            for (int a = 0; a < n; a++) {
                worths[a] = 1;
                backs[a] = findBack(a);
            }
            for (int a = 0; a < n; a++) {
                classes[a] = findClass(a);
            }
        }

        int product(int a, int b) {
            return products[MOST_TURNS * a + b];
        }

        private int findBack(int a) {
            for (int b = 0; b < size; b++) {
                if (product(a, b) == 0) {
                    return b;
                }
            }
            return 0;
        }

        private int findClass(int a) {
            int least = a;
            for (int g = 0; g < size; g++) {
                least = Math.min(least, product(product(g, a), backs[g]));
            }
            return least;
        }

        int orderOf(int a) {
            int reached = a;
            int done = 1;
            while (reached != 0 && done < size) {
                reached = product(reached, a);
                done++;
            }
            return done;
        }

        int classSize(int a) {
            int found = 0;
            for (int b = 0; b < size; b++) {
                if (classes[b] == classes[a]) {
                    found++;
                }
            }
            return found;
        }

        int classesMany() {
            int found = 0;
            for (int a = 0; a < size; a++) {
                if (classes[a] == a) {
                    found++;
                }
            }
            return found;
        }

        int alikeWith(int a) {
            int found = 0;
            for (int b = 0; b < size; b++) {
                if (product(a, b) == product(b, a)) {
                    found++;
                }
            }
            return found;
        }

        int alikeWithAll() {
            int found = 0;
            for (int a = 0; a < size; a++) {
                if (alikeWith(a) == size) {
                    found++;
                }
            }
            return found;
        }

        int alikePairs() {
            int found = 0;
            for (int a = 0; a < size; a++) {
                found += alikeWith(a);
            }
            return found;
        }

        void giveWorth(int a, int v) {
            for (int b = 0; b < size; b++) {
                if (classes[b] == classes[a]) {
                    worths[b] = v;
                }
            }
        }
    }

    /** POINTS and LINES. LINES only ever come, so THE TREE and the PARTS are kept as they come. */
    private static final class Board {
        int points;
        int lines;
        int treeLines;
        final int[] froms = new int[MOST_LINES];
        final int[] tos = new int[MOST_LINES];
        final int[] turns = new int[MOST_LINES];
        final boolean[] inTree = new boolean[MOST_LINES];
        /** Of each POINT the least one that it hangs together with. */
        private final int[] leasts = new int[MOST_POINTS];
        /** By what each POINT is TURNED next. */
        private final int[] shifts = new int[MOST_POINTS];
        private final boolean[] reached = new boolean[MOST_POINTS];

        int addPoint() {
            leasts[points] = points;
            points++;
            return points - 1;
        }

        int addLine(int from, int to) {
            froms[lines] = from;
            tos[lines] = to;
            turns[lines] = 0;
            inTree[lines] = leasts[from] != leasts[to];
            if (inTree[lines]) {
                treeLines++;
                joinParts(leasts[from], leasts[to]);
            }
            lines++;
            return lines - 1;
        }

        private void joinParts(int one, int other) {
            int least = Math.min(one, other);
            for (int p = 0; p < points; p++) {
                if (leasts[p] == one || leasts[p] == other) {
                    leasts[p] = least;
                }
            }
        }

        void clearTurns() {
            for (int line = 0; line < lines; line++) {
                turns[line] = 0;
            }
        }

        void shiftOnly(int p, int a) {
            for (int q = 0; q < points; q++) {
                shifts[q] = q == p ? a : 0;
            }
        }

        void shiftToStill(Group group) {
            for (int p = 0; p < points; p++) {
                reached[p] = leasts[p] == p;
                shifts[p] = 0;
            }
            // each round reaches one POINT more at least, while one is left
            for (int round = 1; round < points; round++) {
                for (int line = 0; line < lines; line++) {
                    if (inTree[line]) {
                        reachAlong(line, group);
                    }
                }
            }
        }

        private void reachAlong(int line, Group group) {
            int from = froms[line];
            int to = tos[line];
            int x = turns[line];
            if (reached[from] && !reached[to]) {
                shifts[to] = group.product(shifts[from], x);
                reached[to] = true;
            } else if (reached[to] && !reached[from]) {
                shifts[from] = group.product(shifts[to], group.backs[x]);
                reached[from] = true;
            }
        }

        int turnPoints(Group group) {
            int changed = 0;
            for (int line = 0; line < lines; line++) {
                int was = turns[line];
                int begun = group.product(shifts[froms[line]], was);
                turns[line] = group.product(begun, group.backs[shifts[tos[line]]]);
                if (turns[line] != was) {
                    changed++;
                }
            }
            return changed;
        }
    }

    /** A WALK: a place for one, used again when it has gone. */
    private static final class Walk {
        private int start;
        int end;
        int steps;
        boolean counted;
        private final int[] lines = new int[MOST_STEPS];
        private final boolean[] backs = new boolean[MOST_STEPS];

        void begin(int p) {
            start = p;
            end = p;
            steps = 0;
            counted = true;
        }

        void go(int line, boolean back, int to) {
            if (steps < MOST_STEPS) {
                lines[steps] = line;
                backs[steps] = back;
                end = to;
                steps++;
            }
        }

        boolean isClosed() {
            return steps > 0 && start == end;
        }

        boolean weighs() {
            return counted && isClosed();
        }

        int turnWith(int[] turns, Group group) {
            int whole = 0;
            for (int s = 0; s < steps; s++) {
                int x = turns[lines[s]];
                whole = group.product(whole, backs[s] ? group.backs[x] : x);
            }
            return whole;
        }

        int markLines(boolean[] marks) {
            int last = 0;
            for (int s = 0; s < steps; s++) {
                marks[lines[s]] = true;
                last = Math.max(last, lines[s]);
            }
            return last;
        }
    }

    /** The latest ACTS: of each the TURNS of all LINES ahead of it. */
    private static final class Acts {
        int kept;
        private int next;
        private final int[][] rows = new int[MOST_ACTS][MOST_LINES];

        void keep(int[] turns) {
            System.arraycopy(turns, 0, rows[next], 0, MOST_LINES);
            next = next + 1 < MOST_ACTS ? next + 1 : 0;
            kept = Math.min(kept + 1, MOST_ACTS);
        }

        boolean giveBack(int[] turns) {
            if (kept <= 0) {
                return false;
            }
            next = next > 0 ? next - 1 : MOST_ACTS - 1;
            System.arraycopy(rows[next], 0, turns, 0, MOST_LINES);
            kept--;
            return true;
        }

        void forget() {
            kept = 0;
        }
    }

    /** A SHEET, with one row for all that it will ever be. */
    private static final class Sheet {
        boolean made;
        int size;
        private int lane;
        final int[] cells = new int[MOST_CELLS];

        void renew(int newLane, int n) {
            made = true;
            lane = newLane;
            size = n;
            for (int i = 0; i < MOST_CELLS; i++) {
                cells[i] = 0;
            }
        }

        boolean hasCell(int i) {
            return i >= 0 && i < size;
        }

        int faultAs(int wanted) {
            if (!made) {
                return -10 - NULL_FAULT;
            }
            return lane == wanted ? 0 : -10 - CAST_FAULT;
        }

        void put(int i, int v) {
            if (lane == 0) {
                cells[i] = (byte) v;
            } else if (lane == 1) {
                cells[i] = (short) v;
            } else {
                cells[i] = v;
            }
        }
    }

    /**
     * Sums over all WAYS. Each WALK that is looked at has a factor for each TURN that it may have;
     * what is summed is their product.
     */
    private static final class Sums {
        private final boolean[] looked = new boolean[MOST_WALKS];
        private final int[][] factors = new int[MOST_WALKS][MOST_TURNS];
        /** Of each WALK the LINE behind which its TURN is known. */
        private final int[] lasts = new int[MOST_WALKS];
        private final boolean[] used = new boolean[MOST_LINES];
        private final boolean[] fixed = new boolean[MOST_LINES];
        private final int[] turns = new int[MOST_LINES];

        void clear() {
            for (int w = 0; w < MOST_WALKS; w++) {
                looked[w] = false;
                for (int t = 0; t < MOST_TURNS; t++) {
                    factors[w][t] = 1;
                }
            }
        }

        void lookForWorth(int w, Group group) {
            looked[w] = true;
            for (int t = 0; t < group.size; t++) {
                factors[w][t] = group.worths[t];
            }
        }

        void lookForClass(int w, int a, Group group) {
            looked[w] = true;
            for (int t = 0; t < group.size; t++) {
                if (group.classes[t] != group.classes[a]) {
                    factors[w][t] = 0;
                }
            }
        }

        void lookForStill(int w) {
            looked[w] = true;
            for (int t = 1; t < MOST_TURNS; t++) {
                factors[w][t] = 0;
            }
        }

        /** A LINE that no WALK looked at goes along stays at 0 too: its TURNS all give the same. */
        void markLines(Walk[] walks, Board board) {
            for (int line = 0; line < MOST_LINES; line++) {
                used[line] = false;
            }
            for (int w = 0; w < MOST_WALKS; w++) {
                if (looked[w]) {
                    lasts[w] = walks[w].markLines(used);
                }
            }
            for (int line = 0; line < MOST_LINES; line++) {
                fixed[line] = board.inTree[line] || !used[line];
            }
        }

        /** The sum over all WAYS of the LINES from one on; those ahead stand, and gave a weight. */
        private static long sumFrom(
                int line, long weight, Sums sums, Walk[] walks, int lines, Group group) {
            if (line >= lines || line >= MOST_LINES) {
                return weight;
            }
            int choices = sums.fixed[line] ? 1 : group.size;
            long sum = 0;
            for (int a = 0; a < choices; a++) {
                sums.turns[line] = a;
                long grown = weight * sums.factorBehind(line, walks, group);
                if (grown != 0) {
                    sum += sumFrom(line + 1, grown, sums, walks, lines, group);
                }
            }
            return sums.fixed[line] ? sum * group.size : sum;
        }

        private long factorBehind(int line, Walk[] walks, Group group) {
            long product = 1;
            for (int w = 0; w < MOST_WALKS; w++) {
                if (looked[w] && lasts[w] == line) {
                    product *= factors[w][walks[w].turnWith(turns, group)];
                }
            }
            return product;
        }
    }
}
