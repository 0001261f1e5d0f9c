/** Edges that the document names for THE GROUP: promises 1 to 7, and the terms that they use. */
public final class EdgesGroupTest {
    private static final int MAX = Integer.MAX_VALUE, MIN = Integer.MIN_VALUE;
    private static final Due due = new Due();

    public static void main(String[] args) {
        atFirstTheRingOfOne();
        atFirstNothing();
        kindsAndSizes();
        ringGoesRound();
        flipsGoRound();
        crossedInFull();
        zeroChangesNothingAndBacks();
        groupBeginsAnew();
        groupLeavesTheRest();
        readOfOneCell();
        readUpToTheLastCell();
        readBeginsAnew();
        readGreatestAndLeastCell();
        readTheFirstMet();
        readBackBothWays();
        readOrderOfProofs();
        timesAndTurnUpToTheLast();
        ordersAndClasses();
        aboutEveryGroup();
        worthLeastAndGreatest();
        worthOfAWholeClass();
        due.end();
    }

    private static int[] products(TurnBoards x) {
        int n = x.about(0);
        int[] found = new int[n * n];
        for (int i = 0; i < n * n; i++) {
            found[i] = x.times(i / n, i % n);
        }
        return found;
    }

    private static TurnBoards ofKind(int kind, int n) {
        TurnBoards x = new TurnBoards();
        x.group(kind, n);
        return x;
    }

    private static void atFirstTheRingOfOne() {
        due.part("at first the RING of 1");
        TurnBoards x = new TurnBoards();
        due.row("about", Boards.ofGroup(x), 1, 1, 1, 1, 1);
        for (int what = 0; what < 6; what++) {
            due.is("turn(0, " + what + ")", x.turn(0, what), what == 0 || what == 2 ? 0 : 1);
        }
        due.is("times(0, 0)", x.times(0, 0), 0);
        due.is("times(0, 1)", x.times(0, 1), -1);
        due.is("turn(1, 0)", x.turn(1, 0), -1);
        due.is("worth(0, 9)", x.worth(0, 9), 1);
        due.is("worth(1, 9)", x.worth(1, 9), -1);
    }

    private static void atFirstNothing() {
        due.part("no POINTS; SHEETS have nothing");
        TurnBoards x = new TurnBoards();
        due.row("many", Boards.ofMany(x), 0, 0, 0, 0, 0, 0, 0, -4);
        for (int k = 0; k < 4; k++) {
            for (int lane = 0; lane < 3; lane++) {
                due.is("read", x.read(k, lane, 0, 1), -11);
                due.is("fill", x.fill(k, lane, 0), -11);
            }
            due.is("lay", x.lay(k, 0, 0), -11);
        }
        due.is("line(0, 0)", x.line(0, 0), -1);
        due.is("walk(0)", x.walk(0), -1);
        due.is("step(0, 0, false)", x.step(0, 0, false), -1);
        due.is("at(0)", x.at(0), -1);
        due.is("tree(0)", x.tree(0), -1);
        due.is("told(0, 0)", x.told(0, 0), -1);
        due.is("twist(0, 0)", x.twist(0, 0), -1);
        due.is("undo()", x.undo(), -4);
        due.is("drop()", x.drop(), -4);
    }

    private static void kindsAndSizes() {
        due.part("RING 1 to 8; FLIPS 3, 4; CROSSED 8");
        for (int kind = -2; kind <= 4; kind++) {
            for (int n = -1; n <= 17; n++) {
                boolean is = kind == 0 && n >= 1 && n <= 8 || kind == 1 && (n == 3 || n == 4)
                    || kind == 2 && n == 8;
                TurnBoards x = ofKind(0, 5);
                int want = !is ? -1 : kind == 1 ? 2 * n : n;
                due.is("group(" + kind + ", " + n + ")", x.group(kind, n), want);
                due.is("about(0)", x.about(0), is ? want : 5);
                due.is("the last TURN", x.turn(x.about(0) - 1, 4), 1);
                due.is("one more", x.turn(x.about(0), 4), -1);
            }
        }
    }

    private static void ringGoesRound() {
        due.part("a b is a + b modulo n");
        for (int n = 1; n <= 8; n++) {
            TurnBoards x = ofKind(0, n);
            for (int a = 0; a < n; a++) {
                for (int b = 0; b < n; b++) {
                    due.is("times(" + a + ", " + b + ")", x.times(a, b), (a + b) % n);
                }
                due.is("BACK of " + a, x.turn(a, 0), (n - a) % n);
            }
        }
    }

    private static void flipsGoRound() {
        due.part("a + b, or a - b if e is 1, modulo n; e and f unlike");
        due.row("FLIPS of 3", products(ofKind(1, 3)),
            0, 1, 2, 3, 4, 5,
            1, 2, 0, 4, 5, 3,
            2, 0, 1, 5, 3, 4,
            3, 5, 4, 0, 2, 1,
            4, 3, 5, 1, 0, 2,
            5, 4, 3, 2, 1, 0);
        due.row("FLIPS of 4", products(ofKind(1, 4)),
            0, 1, 2, 3, 4, 5, 6, 7,
            1, 2, 3, 0, 5, 6, 7, 4,
            2, 3, 0, 1, 6, 7, 4, 5,
            3, 0, 1, 2, 7, 4, 5, 6,
            4, 7, 6, 5, 0, 3, 2, 1,
            5, 4, 7, 6, 1, 0, 3, 2,
            6, 5, 4, 7, 2, 1, 0, 3,
            7, 6, 5, 4, 3, 2, 1, 0);
    }

    private static void crossedInFull() {
        due.part("1, i, j, k, 4 more their opposites");
        due.row("CROSSED", products(ofKind(2, 8)),
            0, 1, 2, 3, 4, 5, 6, 7,
            1, 4, 3, 6, 5, 0, 7, 2,
            2, 7, 4, 1, 6, 3, 0, 5,
            3, 2, 5, 4, 7, 6, 1, 0,
            4, 5, 6, 7, 0, 1, 2, 3,
            5, 0, 7, 2, 1, 4, 3, 6,
            6, 3, 0, 5, 2, 7, 4, 1,
            7, 6, 1, 0, 3, 2, 5, 4);
    }

    private static void zeroChangesNothingAndBacks() {
        due.part("0 changes nothing; the BACK of a is that with which it makes 0");
        int[][] kinds = {{0, 1}, {0, 2}, {0, 7}, {0, 8}, {1, 3}, {1, 4}, {2, 8}};
        for (int[] kind : kinds) {
            TurnBoards x = ofKind(kind[0], kind[1]);
            for (int a = 0; a < x.about(0); a++) {
                due.is("0 a", x.times(0, a), a);
                due.is("a 0", x.times(a, 0), a);
                due.is("a (BACK of a)", x.times(a, x.turn(a, 0)), 0);
                due.is("(BACK of a) a", x.times(x.turn(a, 0), a), 0);
            }
        }
    }

    private static void groupBeginsAnew() {
        due.part("all LINES have TURN 0, WORTHS are 1, no ACTS");
        int[][] kinds = {{0, 1}, {0, 6}, {0, 8}, {1, 3}, {1, 4}, {2, 8}};
        for (int[] kind : kinds) {
            TurnBoards x = new TurnBoards();
            Boards.full(x);
            due.is("acts", x.many(6), 8);
            x.group(kind[0], kind[1]);
            due.row("lines", Boards.lineTurns(x), 0, 0, 0, 0, 0, 0, 0, 0, 0, 0);
            for (int a = 0; a < x.about(0); a++) {
                due.is("worth of " + a, x.turn(a, 4), 1);
            }
            due.is("acts", x.many(6), 0);
            due.is("undo()", x.undo(), -4);
            due.row("lines", Boards.lineTurns(x), 0, 0, 0, 0, 0, 0, 0, 0, 0, 0);
            due.is("weight()", x.weight(), 1);
        }
    }

    private static void groupLeavesTheRest() {
        due.part("group() leaves POINTS, LINES, WALKS, SHEETS");
        TurnBoards x = new TurnBoards();
        Boards.full(x);
        x.group(0, 8);
        due.row("many", Boards.ofMany(x), 6, 10, 8, 5, 1, 5, 0, 64);
        due.is("told(0, 0)", x.told(0, 0), 6);
        due.is("told(4, 4)", x.told(4, 4), 0);
        due.is("a sheet", x.fill(2, 2, 1), 9);
        due.row("lines", Boards.lineTurns(x), 2, 3, 4, 5, 0, 1, 2, 3, 4, 5);
    }

    private static void readOfOneCell() {
        due.part("a GROUP of 1 is read of one CELL");
        for (int lane = 0; lane < 3; lane++) {
            TurnBoards x = new TurnBoards();
            x.sheet(1, lane, 1);
            due.is("the only CELL", x.read(1, lane, 0, 1), 1);
            due.is("one past", x.read(1, lane, 1, 1), -12);
            due.is("one ahead", x.read(1, lane, -1, 1), -12);
            x.lay(1, 0, 1);
            due.is("1 is no TURN of 1", x.read(1, lane, 0, 1), -100);
            x.lay(1, 0, -1);
            due.is("nor is -1", x.read(1, lane, 0, 1), -100);
            x.sheet(1, lane, 64);
            due.is("the last of 64", x.read(1, lane, 63, 1), 1);
            due.is("one past 64", x.read(1, lane, 64, 1), -12);
        }
    }

    /** The RING of n, laid from a CELL on. */
    private static void layRing(TurnBoards x, int k, int f, int n) {
        for (int i = 0; i < n * n; i++) {
            x.lay(k, f + i, (i / n + i % n) % n);
        }
    }

    private static void readUpToTheLastCell() {
        due.part("a b of CELL f + n a + b, up to the last CELL");
        for (int n = 1; n <= 8; n++) {
            for (int lane = 0; lane < 3; lane++) {
                int f = 64 - n * n;
                TurnBoards x = new TurnBoards();
                x.sheet(3, lane, 64);
                layRing(x, 3, f, n);
                due.is("read", x.read(3, lane, f, n), n);
                due.is("about(0)", x.about(0), n);
                due.is("about(4)", x.about(4), 1);
                due.is("(n - 1) (n - 1)", x.times(n - 1, n - 1), (2 * n - 2) % n);
                TurnBoards shorter = new TurnBoards();
                shorter.sheet(3, lane, n * n - 1);
                layRing(shorter, 3, 0, n);
                due.is("one CELL short", shorter.read(3, lane, 0, n), -12);
            }
        }
    }

    private static void readBeginsAnew() {
        due.part("read(): all as by group()");
        TurnBoards x = new TurnBoards();
        Boards.full(x);
        x.sheet(3, 1, 36);
        for (int i = 0; i < 36; i++) {
            x.lay(3, i, x.times(i / 6, i % 6));
        }
        due.is("the same GROUP", x.read(3, 1, 0, 6), 6);
        due.row("lines", Boards.lineTurns(x), 0, 0, 0, 0, 0, 0, 0, 0, 0, 0);
        due.row("worths", Boards.ofTurns(x, 4), 1, 1, 1, 1, 1, 1);
        due.row("backs", Boards.ofTurns(x, 0), 0, 2, 1, 3, 4, 5);
        due.row("classes", Boards.ofTurns(x, 2), 0, 1, 1, 3, 3, 3);
        due.row("many", Boards.ofMany(x), 6, 10, 8, 5, 1, 5, 0, 64);
        due.is("undo()", x.undo(), -4);
        x.lay(3, 35, 5);
        due.is("the SHEET is read once", x.times(5, 5), 0);
    }

    private static void readGreatestAndLeastCell() {
        due.part("a first CELL near the least and the greatest int");
        TurnBoards x = new TurnBoards();
        x.sheet(0, 0, 64);
        int[] firsts = {MAX, MAX - 1, MAX - 3, MAX - 4, MAX - 62, MAX - 63, MAX - 64, MIN, MIN + 1,
            MIN + 3, MIN + 63, MIN + 64, -64, -63, -4, -3, -2, -1, 64, 65};
        for (int f : firsts) {
            for (int n = 1; n <= 8; n++) {
                due.is("read(0, 0, " + f + ", " + n + ")", x.read(0, 0, f, n), -12);
            }
        }
    }

    private static void readTheFirstMet() {
        due.part("CELL by CELL; the first met");
        TurnBoards x = new TurnBoards();
        x.sheet(0, 2, 4);
        layRing(x, 0, 0, 2);
        due.is("all", x.read(0, 2, 0, 2), 2);
        due.is("1 is none of 1", x.read(0, 2, 1, 1), -100);
        x.group(0, 2);
        due.is("0 is, then INDEX", x.read(0, 2, 3, 2), -12);
        x.lay(0, 3, 2);
        due.is("no TURN at the last CELL", x.read(0, 2, 0, 2), -103);
        x.lay(0, 1, 2);
        due.is("no TURN, twice", x.read(0, 2, 0, 2), -101);
        due.is("2 is one of 3, then INDEX", x.read(0, 2, 0, 3), -12);
        x.lay(0, 3, 3);
        due.is("3 is none of 3, ahead of INDEX", x.read(0, 2, 0, 3), -103);
        x.lay(0, 0, 1);
        due.is("no TURN ahead of 0 0 is not 0", x.read(0, 2, 0, 2), -101);
    }

    private static int readOf(int n, int... cells) {
        TurnBoards x = new TurnBoards();
        x.sheet(2, 1, cells.length);
        Boards.layAll(x, 2, 0, cells);
        return x.read(2, 1, 0, n);
    }

    private static void readBackBothWays() {
        due.part("no BACK: b with a b and b a 0");
        due.is("a b is 0, b a is not", readOf(3, 0, 1, 2, 1, 1, 0, 2, 2, 2), -301);
        due.is("b a is 0, a b is not", readOf(3, 0, 1, 2, 1, 1, 1, 2, 0, 2), -301);
        due.is("a b by one, b a by another", readOf(4,
            0, 1, 2, 3, 1, 1, 0, 1, 2, 2, 0, 0, 3, 0, 0, 0), -301);
        due.is("the last alone", readOf(3, 0, 1, 2, 1, 0, 2, 2, 1, 2), -302);
        due.is("with itself", readOf(2, 0, 1, 1, 0), 2);
    }

    private static void readOrderOfProofs() {
        due.part("then -200, then -300, then -1000, for the least");
        due.is("0 a of the last ahead of no BACK", readOf(3, 0, 1, 0, 1, 1, 1, 2, 1, 1), -202);
        due.is("a 0 of the last ahead of no BACK", readOf(3, 0, 1, 2, 1, 1, 1, 0, 1, 1), -202);
        due.is("0 0", readOf(1, 0), 1);
        due.is("0 0 is not 0", readOf(2, 1, 0, 0, 1), -200);
        due.is("no BACK of 2 ahead of (1 1) 2", readOf(3, 0, 1, 2, 1, 0, 1, 2, 1, 1), -302);
        due.is("1 1 1", readOf(4, 0, 1, 2, 3, 1, 2, 0, 0, 2, 3, 0, 1, 3, 0, 1, 2), -1073);
        due.is("1 1 2", readOf(3, 0, 1, 2, 1, 0, 1, 2, 1, 0), -1074);
        // 1 (1 3) is 1 2, that is 2; 1 (1 2) is 2, as it must be
        due.is("1 1 3", readOf(4, 0, 1, 2, 3, 1, 0, 2, 2, 2, 3, 0, 1, 3, 2, 1, 0), -1075);
        // 3 x is 1 (2 x) throughout, so all with 1 first is well; (2 1) 2 is 0, 2 (1 2) is 1
        due.is("2 1 2", readOf(4, 0, 1, 2, 3, 1, 0, 3, 2, 2, 2, 0, 1, 3, 3, 1, 0), -1138);
    }

    private static void timesAndTurnUpToTheLast() {
        due.part("4, 5: TURNS 0 to n - 1");
        for (int n = 1; n <= 8; n++) {
            TurnBoards x = ofKind(2, 8);
            x.group(0, n);
            due.is("the last", x.times(n - 1, 0), n - 1);
            due.is("the last", x.times(0, n - 1), n - 1);
            due.is("the last", x.turn(n - 1, 5), n);
            for (int bad : new int[] {-1, n, n + 1, 8, MAX, MIN}) {
                due.is("times(" + bad + ", 0)", x.times(bad, 0), -1);
                due.is("times(0, " + bad + ")", x.times(0, bad), -1);
                due.is("turn(" + bad + ", 0)", x.turn(bad, 0), -1);
                due.is("worth(" + bad + ", 0)", x.worth(bad, 0), -1);
            }
            for (int bad : new int[] {-1, 6, 7, MAX, MIN}) {
                due.is("turn(0, " + bad + ")", x.turn(0, bad), -1);
            }
        }
    }

    private static void ordersAndClasses() {
        due.part("5: how often; CLASS by its least TURN; how many in it; alike");
        TurnBoards x = ofKind(1, 3);
        due.row("orders", Boards.ofTurns(x, 1), 1, 3, 3, 2, 2, 2);
        due.row("classes", Boards.ofTurns(x, 2), 0, 1, 1, 3, 3, 3);
        due.row("sizes", Boards.ofTurns(x, 3), 1, 2, 2, 3, 3, 3);
        due.row("alike", Boards.ofTurns(x, 5), 6, 3, 3, 2, 2, 2);
        x = ofKind(2, 8);
        due.row("sizes", Boards.ofTurns(x, 3), 1, 2, 2, 2, 1, 2, 2, 2);
        due.row("alike", Boards.ofTurns(x, 5), 8, 4, 4, 4, 8, 4, 4, 4);
        for (int n = 1; n <= 8; n++) {
            x = ofKind(0, n);
            due.is("turned by 1", x.turn(1 % n, 1), n);
            due.is("the last", x.turn(n - 1, 1), n);
            due.is("its own class", x.turn(n - 1, 2), n - 1);
        }
    }

    private static void aboutEveryGroup() {
        due.part("6: about");
        for (int n = 1; n <= 8; n++) {
            due.row("RING of " + n, Boards.ofGroup(ofKind(0, n)), n, n, n, n * n, 1);
        }
        due.row("FLIPS of 3", Boards.ofGroup(ofKind(1, 3)), 6, 3, 1, 18, 0);
        due.row("FLIPS of 4", Boards.ofGroup(ofKind(1, 4)), 8, 5, 2, 40, 0);
        due.row("CROSSED", Boards.ofGroup(ofKind(2, 8)), 8, 5, 2, 40, 0);
        for (int bad : new int[] {-1, 5, MAX, MIN}) {
            due.is("about(" + bad + ")", new TurnBoards().about(bad), -1);
        }
    }

    private static void worthLeastAndGreatest() {
        due.part("WORTH: 0 to 9 (1 at first)");
        TurnBoards x = ofKind(0, 8);
        for (int v = 0; v <= 9; v++) {
            due.is("worth(7, " + v + ")", x.worth(7, v), v == 0 ? 1 : v - 1);
            due.is("turn(7, 4)", x.turn(7, 4), v);
        }
        for (int bad : new int[] {-1, 10, 11, MAX, MIN}) {
            due.is("worth(7, " + bad + ")", x.worth(7, bad), -1);
            due.is("stays", x.turn(7, 4), 9);
        }
        due.row("the others stay", Boards.ofTurns(x, 4), 1, 1, 1, 1, 1, 1, 1, 9);
    }

    private static void worthOfAWholeClass() {
        due.part("WORTH: the same for all of a CLASS");
        TurnBoards x = ofKind(1, 4);
        due.is("by its greatest", x.worth(7, 0), 1);
        due.row("worths", Boards.ofTurns(x, 4), 1, 1, 1, 1, 1, 0, 1, 0);
        due.is("by its least", x.worth(5, 9), 0);
        due.row("worths", Boards.ofTurns(x, 4), 1, 1, 1, 1, 1, 9, 1, 9);
        due.is("the same once more", x.worth(7, 9), 9);
        due.is("one alone in its CLASS", x.worth(0, 0), 1);
        due.row("worths", Boards.ofTurns(x, 4), 0, 1, 1, 1, 1, 9, 1, 9);
        due.is("no ACT", x.many(6), 0);
    }
}
