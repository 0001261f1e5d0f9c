/** Edges that the document names for sums: promises 22 to 25, and the terms that they use. */
public final class EdgesSumsTest {
    private static final int MAX = Integer.MAX_VALUE, MIN = Integer.MIN_VALUE;
    private static final Due due = new Due();

    public static void main(String[] args) {
        spentAbove40000();
        spentOfOtherKinds();
        spentByAGroupReadAnew();
        spentWithoutWalks();
        spentIsLeftAgain();
        oneWay();
        waysOfNoWalks();
        treeAlone();
        greatestSum();
        sumOfWalksThatCount();
        sumLeavesLines();
        sumByOfBadNumbers();
        sumByOfOpenWalks();
        sumByOfClasses();
        meanInLowestTerms();
        meanOfNoneAndAll();
        meanOfSumZero();
        meanOrderOfAnswers();
        flatOfWalks();
        flatWithoutWorths();
        due.end();
    }

    private static long power(int n, int often) {
        long found = 1;
        for (int i = 0; i < often; i++) {
            found *= n;
        }
        return found;
    }

    /** LINES of THE TREE from 0 on, then others from 0 to itself, a WALK along the last LINE. */
    private static TurnBoards board(int kind, int n, int tree, int others) {
        TurnBoards x = Boards.withPoints(6);
        x.group(kind, n);
        for (int p = 0; p < tree; p++) {
            x.line(p, p + 1);
        }
        for (int i = 0; i < others; i++) {
            x.line(0, 0);
        }
        Boards.walkAlong(x, 0, tree + others - 1);
        return x;
    }

    private static void dueSpent(TurnBoards x) {
        due.is("sum()", x.sum(), -6);
        due.is("sumBy(0, 0)", x.sumBy(0, 0), -6);
        due.is("mean(0, 0, 0)", x.mean(0, 0, 0), -6);
        due.is("mean(0, 0, 1)", x.mean(0, 0, 1), -6);
        due.is("flat()", x.flat(), -6);
    }

    /** One WALK along one LINE that is not of THE TREE, WORTHS 1. */
    private static void dueWays(TurnBoards x, int turns, int lines) {
        due.is("sum()", x.sum(), power(turns, lines));
        due.is("sumBy(0, 0)", x.sumBy(0, 0), power(turns, lines - 1));
        due.is("mean(0, 0, 0)", x.mean(0, 0, 0), 1);
        due.is("mean(0, 0, 1)", x.mean(0, 0, 1), turns);
        due.is("flat()", x.flat(), power(turns, lines - 1));
    }

    private static void spentAbove40000() {
        for (int n = 1; n <= 8; n++) {
            for (int tree = 0; tree <= 5; tree++) {
                for (int others = 1; tree + others <= 10; others++) {
                    due.part("SPENT: RING of " + n + ", " + tree + " and " + others + " LINES");
                    TurnBoards x = board(0, n, tree, others);
                    if (power(n, others) > 40000) {
                        dueSpent(x);
                    } else {
                        dueWays(x, n, tree + others);
                    }
                }
            }
        }
    }

    private static void spentOfOtherKinds() {
        int[][] kinds = {{1, 3, 6}, {1, 4, 8}, {2, 8, 8}};
        for (int[] each : kinds) {
            due.part("SPENT: kind " + each[0] + " of " + each[1]);
            for (int tree = 0; tree <= 4; tree += 4) {
                dueWays(board(each[0], each[1], tree, 5), each[2], tree + 5);
                dueSpent(board(each[0], each[1], tree, 6));
            }
        }
    }

    private static void spentByAGroupReadAnew() {
        due.part("SPENT: as THE GROUP becomes another one");
        TurnBoards x = board(0, 6, 0, 6);
        dueSpent(x);
        x.group(0, 5);
        dueWays(x, 5, 6);
        x.sheet(0, 0, 36);
        for (int i = 0; i < 36; i++) {
            x.lay(0, i, (i / 6 + i % 6) % 6);
        }
        due.is("read", x.read(0, 0, 0, 6), 6);
        dueSpent(x);
        x.group(0, 1);
        dueWays(x, 1, 6);
    }

    private static void spentWithoutWalks() {
        due.part("SPENT: LINES that no WALK goes along are other LINES too");
        TurnBoards x = board(0, 8, 0, 6);
        x.drop();
        due.is("sum()", x.sum(), -6);
        due.is("flat()", x.flat(), -6);
        TurnBoards apart = Boards.withPoints(6);
        apart.group(2, 8);
        for (int p = 0; p < 5; p++) {
            apart.line(p, p);
        }
        due.is("five", apart.sum(), 32768);
        due.is("five", apart.flat(), 32768);
        apart.line(5, 5);
        due.is("six, each in a PART of its own", apart.sum(), -6);
        due.is("six, each in a PART of its own", apart.flat(), -6);
    }

    private static void spentIsLeftAgain() {
        due.part("SPENT: one more of THE TREE is no matter, one more besides is");
        TurnBoards x = board(2, 8, 0, 5);
        dueWays(x, 8, 5);
        for (int p = 1; p <= 4; p++) {
            x.line(p, 0);
            dueWays(x, 8, 5 + p);
        }
        x.line(4, 0);
        dueSpent(x);
    }

    private static void oneWay() {
        due.part("no LINES: one WAY");
        TurnBoards x = new TurnBoards();
        x.group(2, 8);
        x.worth(0, 9);
        due.is("sum()", x.sum(), 1);
        due.is("flat()", x.flat(), 1);
        for (int p = 0; p < 6; p++) {
            x.point();
            x.walk(p);
        }
        due.is("sum()", x.sum(), 1);
        due.is("flat()", x.flat(), 1);
        due.is("sumBy(0, 0)", x.sumBy(0, 0), -1);
    }

    private static void waysOfNoWalks() {
        due.part("WAYS: n to the number of LINES");
        for (int n = 1; n <= 8; n++) {
            TurnBoards x = board(0, n, 5, 1);
            x.counts(0, false);
            x.worth(0, 0);
            due.is("sum()", x.sum(), power(n, 6));
            due.is("flat()", x.flat(), power(n, 6));
            x.drop();
            due.is("sum()", x.sum(), power(n, 6));
            due.is("flat()", x.flat(), power(n, 6));
        }
    }

    private static void treeAlone() {
        due.part("THE TREE alone: times n for each of its LINES");
        TurnBoards x = Boards.withPoints(6);
        x.group(1, 4);
        for (int p = 5; p > 0; p--) {
            x.line(p, p - 1);
        }
        Boards.walkAlong(x, 0, -5, -4, -3, 2, 3, 4);
        x.worth(0, 3);
        x.worth(2, 0);
        due.is("told(0, 2)", x.told(0, 2), 1);
        due.is("sum()", x.sum(), 3 * 32768);
        due.is("sumBy(0, 0)", x.sumBy(0, 0), 3 * 32768);
        due.is("sumBy(0, 7)", x.sumBy(0, 7), 0);
        due.is("flat()", x.flat(), 32768);
    }

    private static void greatestSum() {
        due.part("the greatest SUM");
        TurnBoards x = Boards.fullBoard(2, 8);
        for (int a = 0; a < 8; a++) {
            x.worth(a, 9);
        }
        for (int w = 0; w < 8; w++) {
            int p = w % 5;
            Boards.walkAlong(x, p, 5 + p, 5 + p, 5 + p, 5 + p, 5 + p, 5 + p);
        }
        long ways = 1L << 30;
        due.is("sum()", x.sum(), ways * 43046721);
        // a six times: 0 for 1 and its opposite, the opposite of 1 for the other six
        due.is("sumBy(7, 0)", x.sumBy(7, 0), ways / 4 * 43046721);
        due.is("sumBy(7, 4)", x.sumBy(7, 4), ways / 4 * 3 * 43046721);
        due.is("sumBy(7, 1)", x.sumBy(7, 1), 0);
        due.is("mean(7, 4, 0)", x.mean(7, 4, 0), 3);
        due.is("mean(7, 4, 1)", x.mean(7, 4, 1), 4);
        due.is("flat()", x.flat(), ways / 1024);
        x.worth(4, 8);
        x.worth(0, 7);
        // three LINES have two WALKS, two have one: (7 7 2 + 8 8 6)^3 (7 2 + 8 6)^2, by 8^5 more
        due.is("sum()", x.sum(), 482L * 482 * 482 * 62 * 62 * 32768);
    }

    private static void sumOfWalksThatCount() {
        due.part("SUM: of the WALKS that are CLOSED and COUNT");
        TurnBoards x = Boards.loops(0, 3, 2, 2);
        x.worth(0, 0);
        x.worth(1, 2);
        x.worth(2, 5);
        due.is("both", x.sum(), 49);
        x.counts(0, false);
        due.is("one", x.sum(), 21);
        x.counts(1, false);
        due.is("none", x.sum(), 9);
        x.counts(0, true);
        due.is("the other", x.sum(), 21);
        x.point();
        x.line(0, 1);
        x.step(0, 2, false);
        due.is("no more CLOSED", x.sum(), 27);
        due.is("flat()", x.flat(), 27);
    }

    private static void sumLeavesLines() {
        due.part("sums leave what the LINES have");
        TurnBoards x = new TurnBoards();
        Boards.full(x);
        int[] turns = Boards.lineTurns(x);
        long sum = x.sum();
        x.flat();
        x.sumBy(0, 1);
        x.mean(0, 1, 0);
        due.row("lines", Boards.lineTurns(x), turns);
        due.is("no ACT", x.many(6), 8);
        for (int i = 0; i < 10; i++) {
            x.set(i, 5 - i % 6);
            due.is("sum()", x.sum(), sum);
        }
        x.still();
        due.is("sum()", x.sum(), sum);
    }

    private static void sumByOfBadNumbers() {
        due.part("23: BAD: no such WALK, no such TURN");
        for (int n = 1; n <= 8; n++) {
            TurnBoards x = Boards.loops(0, n, 2, 2);
            due.is("the last", x.sumBy(1, n - 1), n);
            for (int bad : new int[] {-1, n, 8, MAX, MIN}) {
                due.is("sumBy(1, " + bad + ")", x.sumBy(1, bad), -1);
                due.is("mean(1, " + bad + ", 0)", x.mean(1, bad, 0), -1);
            }
            for (int bad : new int[] {-1, 2, 8, MAX, MIN}) {
                due.is("sumBy(" + bad + ", 0)", x.sumBy(bad, 0), -1);
                due.is("mean(" + bad + ", 0, 0)", x.mean(bad, 0, 0), -1);
            }
        }
    }

    private static void sumByOfOpenWalks() {
        due.part("23: BAD: also the WALK is not CLOSED");
        TurnBoards x = Boards.triangle(0, 4);
        due.is("CLOSED", x.sumBy(0, 3), 16);
        int none = x.walk(0);
        due.is("no STEPS", x.sumBy(none, 0), -1);
        int open = Boards.walkAlong(x, 0, 0, 1);
        due.is("not CLOSED", x.sumBy(open, 0), -1);
        due.is("not CLOSED", x.mean(open, 0, 1), -1);
        x.step(open, 2, false);
        due.is("CLOSED now", x.sumBy(open, 0), 16);
        x.step(open, 0, false);
        due.is("went on", x.sumBy(open, 0), -1);
        x.drop();
        due.is("gone", x.sumBy(open, 0), -1);
    }

    private static void sumByOfClasses() {
        due.part("23: in which the WALK has a TURN of that CLASS");
        TurnBoards x = Boards.loops(2, 8, 1, 1);
        for (int a = 0; a < 8; a++) {
            x.worth(a, 2 + a % 4);
        }
        x.worth(4, 7);
        int[] want = {2, 6, 8, 10, 7, 6, 8, 10};
        for (int a = 0; a < 8; a++) {
            due.is("sumBy(0, " + a + ")", x.sumBy(0, a), want[a]);
        }
        x.counts(0, false);
        int[] unweighed = {1, 2, 2, 2, 1, 2, 2, 2};
        for (int a = 0; a < 8; a++) {
            due.is("that does not COUNT", x.sumBy(0, a), unweighed[a]);
        }
    }

    private static void meanInLowestTerms() {
        due.part("24: in lowest terms (above 0)");
        for (int one = 0; one <= 9; one++) {
            for (int other = 0; other <= 9; other++) {
                if (one + other == 0) {
                    continue;
                }
                TurnBoards x = Boards.loops(0, 2, 10, 1);
                x.worth(0, one);
                x.worth(1, other);
                long up = x.mean(0, 1, 0);
                long by = x.mean(0, 1, 1);
                due.is(other + " of " + (one + other), up * (one + other), other * by);
                due.holds("the denominator is above 0", by > 0);
                for (int d = 2; d <= 18; d++) {
                    due.holds("nothing is shared", up % d != 0 || by % d != 0);
                }
            }
        }
    }

    private static void meanOfNoneAndAll() {
        due.part("24: none of SUM, and all of it");
        TurnBoards x = Boards.loops(2, 8, 5, 1);
        x.worth(0, 0);
        due.is("none: numerator", x.mean(0, 0, 0), 0);
        due.is("none: denominator", x.mean(0, 0, 1), 1);
        x.worth(1, 0);
        x.worth(2, 0);
        x.worth(3, 0);
        due.is("all: numerator", x.mean(0, 4, 0), 1);
        due.is("all: denominator", x.mean(0, 4, 1), 1);
    }

    private static void meanOfSumZero() {
        due.part("24: STATE: SUM is 0");
        TurnBoards x = Boards.loops(0, 2, 2, 2);
        x.worth(0, 0);
        x.worth(1, 0);
        for (int a = 0; a < 2; a++) {
            due.is("numerator", x.mean(0, a, 0), -2);
            due.is("denominator", x.mean(0, a, 1), -2);
            due.is("sumBy", x.sumBy(0, a), 0);
        }
        due.is("sum()", x.sum(), 0);
        x.counts(0, false);
        due.is("the other one is worth nothing", x.mean(0, 0, 1), -2);
        x.counts(1, false);
        due.is("none COUNTS", x.mean(0, 0, 1), 2);
    }

    private static void meanOrderOfAnswers() {
        due.part("24: BAD likewise; SPENT; STATE");
        TurnBoards x = Boards.loops(0, 2, 1, 1);
        x.worth(0, 0);
        x.worth(1, 0);
        for (int bad : new int[] {-1, 2, 3, MAX, MIN}) {
            due.is("BAD ahead of STATE", x.mean(0, 0, bad), -1);
        }
        due.is("BAD ahead of STATE", x.mean(1, 0, 0), -1);
        due.is("BAD ahead of STATE", x.mean(0, 2, 0), -1);
        TurnBoards spent = board(0, 6, 0, 6);
        for (int a = 0; a < 6; a++) {
            spent.worth(a, 0);
        }
        due.is("SPENT ahead of STATE", spent.mean(0, 0, 0), -6);
        due.is("BAD ahead of SPENT", spent.mean(0, 0, -1), -1);
        due.is("BAD ahead of SPENT", spent.mean(0, 6, 0), -1);
        due.is("BAD ahead of SPENT", spent.mean(1, 0, 0), -1);
        spent.walk(0);
        due.is("not CLOSED ahead of SPENT", spent.mean(1, 0, 0), -1);
    }

    private static void flatOfWalks() {
        due.part("25: TURN 0 at all CLOSED WALKS that COUNT");
        TurnBoards x = Boards.loops(0, 4, 3, 3);
        due.is("all three", x.flat(), 1);
        x.counts(2, false);
        due.is("two COUNT", x.flat(), 4);
        x.point();
        x.line(0, 1);
        due.is("a LINE of THE TREE more", x.flat(), 16);
        x.step(1, 3, false);
        due.is("one no more CLOSED", x.flat(), 64);
        TurnBoards twice = Boards.loops(0, 4, 1, 0);
        Boards.walkAlong(twice, 0, 0, 0);
        due.is("gone twice: 0 and 2", twice.flat(), 2);
        Boards.walkAlong(twice, 0, 0, -1);
        due.is("along and back: all", twice.flat(), 2);
    }

    private static void flatWithoutWorths() {
        due.part("25: how many WAYS, whatever their WORTHS");
        TurnBoards x = Boards.loops(1, 3, 2, 2);
        x.worth(0, 0);
        due.is("worth 0", x.flat(), 1);
        x.worth(0, 9);
        due.is("worth 9", x.flat(), 1);
        due.is("sum()", x.sum(), 14 * 14);
    }
}
