/** For each promise of the document: ordinary calls, the edges that it names, wrong inputs. */
public final class PromisesTest {
    private static final int MAX = Integer.MAX_VALUE, MIN = Integer.MIN_VALUE;
    private static final Due due = new Due();

    public static void main(String[] args) {
        promise1NewObject();
        promise2Group();
        promise2GroupChangesOtherThings();
        promise3Read();
        promise3ReadFaults();
        promise3ReadProofs();
        promise4Times();
        promise5Turn();
        promise6About();
        promise7Worth();
        promise8Point();
        promise9Line();
        promise10Walk();
        promise11Step();
        promise12Counts();
        promise13Told();
        promise14Drop();
        promise15Set();
        promise16At();
        promise17Weight();
        promise18Twist();
        promise19Still();
        promise20Undo();
        promise20UndoKeepsEight();
        promise21Tree();
        promise22Sum();
        promise22SumSpent();
        promise23SumBy();
        promise24Mean();
        promise25Flat();
        promise26Sheet();
        promise27Lay();
        promise28Fill();
        promise28FillFaults();
        promise29Many();
        due.end();
    }

    private static TurnBoards withSheet(int lane, int... cells) {
        TurnBoards x = new TurnBoards();
        x.sheet(0, lane, cells.length);
        Boards.layAll(x, 0, 0, cells);
        return x;
    }

    // ---- the group

    private static void promise1NewObject() {
        due.part("1 new object");
        TurnBoards x = new TurnBoards();
        due.row("about", Boards.ofGroup(x), 1, 1, 1, 1, 1);
        due.is("times(0, 0)", x.times(0, 0), 0);
        due.is("times(1, 0)", x.times(1, 0), -1);
        due.is("worth of 0", x.turn(0, 4), 1);
        for (int what = 0; what < 7; what++) {
            due.is("many(" + what + ")", x.many(what), 0);
        }
        due.is("many(7)", x.many(7), -4);
        for (int k = 0; k < 4; k++) {
            due.is("lay(k, 0, 0)", x.lay(k, 0, 0), -11);
        }
        due.is("weight()", x.weight(), 1);
        due.is("sum()", x.sum(), 1);
        due.is("flat()", x.flat(), 1);
        due.is("undo()", x.undo(), -4);
        due.is("drop()", x.drop(), -4);
        due.is("walk(0)", x.walk(0), -1);
        due.is("at(0)", x.at(0), -1);
        TurnBoards other = new TurnBoards();
        other.point();
        due.is("another object's points", x.many(0), 0);
    }

    private static void promise2Group() {
        due.part("2 group");
        TurnBoards x = new TurnBoards();
        for (int n = 1; n <= 8; n++) {
            due.is("group(0, n)", x.group(0, n), n);
            due.is("about(0)", x.about(0), n);
            due.is("(n - 1) (n - 1)", x.times(n - 1, n - 1), (2 * n - 2) % n);
        }
        due.is("group(1, 4)", x.group(1, 4), 8);
        due.is("turned, turned", x.times(2, 3), 1);
        due.is("turned, flipped", x.times(3, 6), 5);
        due.is("flipped, turned", x.times(4, 1), 7);
        due.is("flipped, flipped", x.times(5, 7), 2);
        due.is("group(1, 3)", x.group(1, 3), 6);
        due.is("flipped, turned", x.times(3, 1), 5);
        due.is("group(2, 8)", x.group(2, 8), 8);
        due.is("i j", x.times(1, 2), 3);
        due.is("k j", x.times(3, 2), 5);
        due.is("-i -j", x.times(5, 6), 3);
        due.is("-i i", x.times(5, 1), 0);
        int[][] wrong = {{0, 0}, {0, 9}, {0, -1}, {1, 2}, {1, 5}, {1, 8}, {2, 7}, {2, 9}, {2, 4},
            {3, 3}, {-1, 3}, {0, MAX}, {1, MIN}, {MAX, 8}, {MIN, 8}};
        for (int[] each : wrong) {
            due.is("group(" + each[0] + ", " + each[1] + ")", x.group(each[0], each[1]), -1);
        }
        due.is("after what is refused", x.times(1, 2), 3);
    }

    private static void promise2GroupChangesOtherThings() {
        due.part("2 group, the rest");
        TurnBoards x = Boards.triangle(0, 4);
        x.set(0, 3);
        x.set(2, 2);
        x.worth(3, 7);
        due.is("group(1, 9)", x.group(1, 9), -1);
        due.row("refused: lines", Boards.lineTurns(x), 3, 0, 2);
        due.is("refused: worth", x.turn(3, 4), 7);
        due.is("refused: acts", x.many(6), 2);
        due.is("group(0, 4)", x.group(0, 4), 4);
        due.row("lines", Boards.lineTurns(x), 0, 0, 0);
        due.row("worths", Boards.ofTurns(x, 4), 1, 1, 1, 1);
        due.is("acts", x.many(6), 0);
        due.is("undo()", x.undo(), -4);
        due.is("points stay", x.many(0), 3);
        due.is("walks stay", x.told(0, 0), 3);
        TurnBoards full = Boards.fullBoard(0, 2);
        full.set(9, 1);
        due.is("group(0, 3)", full.group(0, 3), 3);
        due.is("the last line", full.at(9), 0);
    }

    private static void promise3Read() {
        due.part("3 read");
        for (int lane = 0; lane < 3; lane++) {
            TurnBoards x = withSheet(lane, 9, 0, 1, 2, 1, 2, 0, 2, 0, 1, 9);
            x.point();
            x.line(0, 0);
            x.group(0, 2);
            x.worth(1, 5);
            x.set(0, 1);
            due.is("read", x.read(0, lane, 1, 3), 3);
            due.is("times(1, 1)", x.times(1, 1), 2);
            due.is("times(1, 2)", x.times(1, 2), 0);
            due.is("line", x.at(0), 0);
            due.is("worth", x.turn(1, 4), 1);
            due.is("acts", x.many(6), 0);
        }
        TurnBoards x = withSheet(1, 0, 1, 2, 3, 1, 0, 3, 2, 2, 3, 0, 1, 3, 2, 1, 0);
        due.is("four that undo themselves", x.read(0, 1, 0, 4), 4);
        due.row("orders", Boards.ofTurns(x, 1), 1, 2, 2, 2);
        // rows and columns are told apart only by a group in which they differ
        TurnBoards flips = new TurnBoards();
        flips.group(1, 4);
        flips.sheet(3, 2, 64);
        for (int i = 0; i < 64; i++) {
            flips.lay(3, i, flips.times(i / 8, i % 8));
        }
        flips.group(0, 1);
        due.is("a sheet used to its last cell", flips.read(3, 2, 0, 8), 8);
        due.is("times(4, 1)", flips.times(4, 1), 7);
        due.is("times(1, 4)", flips.times(1, 4), 5);
        due.row("classes", Boards.ofTurns(flips, 2), 0, 1, 2, 1, 4, 5, 4, 5);
    }

    private static void promise3ReadFaults() {
        due.part("3 read, faults");
        TurnBoards x = withSheet(0, 0, 1, 1, 0);
        x.group(0, 5);
        for (int k : new int[] {-1, 4, MAX, MIN}) {
            due.is("sheet " + k, x.read(k, 0, 0, 2), -1);
        }
        for (int lane : new int[] {-1, 3, MAX, MIN}) {
            due.is("lane " + lane, x.read(0, lane, 0, 2), -1);
            due.is("lane ahead of nothing", x.read(1, lane, 0, 2), -1);
        }
        for (int n : new int[] {0, 9, -1, MAX, MIN}) {
            due.is("n " + n, x.read(0, 0, 0, n), -1);
            due.is("n ahead of nothing", x.read(1, 0, 0, n), -1);
        }
        due.is("nothing", x.read(1, 0, 0, 2), -11);
        due.is("nothing ahead of index", x.read(1, 0, -5, 2), -11);
        due.is("cast", x.read(0, 1, 0, 2), -13);
        due.is("cast ahead of index", x.read(0, 2, -5, 2), -13);
        for (int f : new int[] {-1, 4, MAX, MIN}) {
            due.is("from " + f, x.read(0, 0, f, 1), -12);
            due.is("from " + f, x.read(0, 0, f, 8), -12);
        }
        due.is("index at the last cell", x.read(0, 0, 1, 2), -12);
        due.is("no turn ahead of index", x.read(0, 0, 1, 1), -100);
        Boards.layAll(x, 0, 3, 2);
        due.is("no turn, the last", x.read(0, 0, 0, 2), -103);
        Boards.layAll(x, 0, 2, -1);
        due.is("no turn, the first met", x.read(0, 0, 0, 2), -102);
        due.is("no turn ahead of the sheet's end", x.read(0, 0, 0, 3), -102);
        x.sheet(2, 2, 0);
        due.is("no cells", x.read(2, 2, 0, 1), -12);
        due.is("nothing changed", x.about(0), 5);
        due.is("nothing changed", x.times(3, 4), 2);
    }

    private static void promise3ReadProofs() {
        due.part("3 read, proofs");
        dueRead(3, -200, 1, 0, 0, 1, 1, 1, 0, 1, 2);
        dueRead(2, -201, 0, 0, 1, 0);
        dueRead(2, -201, 0, 1, 0, 0);
        dueRead(3, -202, 0, 1, 2, 1, 1, 1, 0, 1, 1);
        dueRead(2, -301, 0, 1, 1, 1);
        // 1 2 is 0, 2 1 is not: no BACK of 1
        dueRead(3, -301, 0, 1, 2, 1, 1, 0, 2, 1, 2);
        dueRead(3, -302, 0, 1, 2, 1, 0, 2, 2, 1, 1);
        dueRead(3, -1074, 0, 1, 2, 1, 0, 0, 2, 0, 1);
        // all is its own BACK; (1 1) 2 is 2, 1 (1 2) is 1 1, that is 0
        dueRead(3, -1074, 0, 1, 2, 1, 0, 1, 2, 1, 0);
        // (1 1) 1 is 2 1, that is 0; 1 (1 1) is 1 2, that is 0; (1 1) 2 is 2 2, that is 2
        dueRead(3, -1074, 0, 1, 2, 1, 2, 0, 2, 0, 2);
        // 1 1 is 2, 2 1 is 3, but 1 2 is 0
        dueRead(4, -1073, 0, 1, 2, 3, 1, 2, 0, 0, 2, 3, 0, 1, 3, 0, 1, 2);
        TurnBoards x = withSheet(0, 0, 1, 1, 1);
        x.group(1, 3);
        x.worth(3, 4);
        x.point();
        x.line(0, 0);
        x.set(0, 5);
        due.is("read", x.read(0, 0, 0, 2), -301);
        due.is("refused: group", x.times(3, 1), 5);
        due.is("refused: worth", x.turn(5, 4), 4);
        due.is("refused: line", x.at(0), 5);
        due.is("refused: acts", x.many(6), 1);
    }

    private static void dueRead(int n, int want, int... cells) {
        TurnBoards x = withSheet(2, cells);
        due.is("read " + java.util.Arrays.toString(cells), x.read(0, 2, 0, n), want);
        due.is("the group stays", x.about(0), 1);
    }

    private static void promise4Times() {
        due.part("4 times");
        TurnBoards x = new TurnBoards();
        x.group(1, 3);
        due.is("times(4, 2)", x.times(4, 2), 5);
        due.is("times(2, 4)", x.times(2, 4), 3);
        due.is("times(5, 5)", x.times(5, 5), 0);
        for (int a : new int[] {-1, 6, 7, 8, MAX, MIN}) {
            due.is("times(" + a + ", 0)", x.times(a, 0), -1);
            due.is("times(0, " + a + ")", x.times(0, a), -1);
        }
    }

    private static void promise5Turn() {
        due.part("5 turn");
        TurnBoards x = new TurnBoards();
        x.group(1, 4);
        due.row("backs", Boards.ofTurns(x, 0), 0, 3, 2, 1, 4, 5, 6, 7);
        due.row("orders", Boards.ofTurns(x, 1), 1, 4, 2, 4, 2, 2, 2, 2);
        due.row("classes", Boards.ofTurns(x, 2), 0, 1, 2, 1, 4, 5, 4, 5);
        due.row("class sizes", Boards.ofTurns(x, 3), 1, 2, 1, 2, 2, 2, 2, 2);
        due.row("worths", Boards.ofTurns(x, 4), 1, 1, 1, 1, 1, 1, 1, 1);
        due.row("alike with", Boards.ofTurns(x, 5), 8, 4, 8, 4, 4, 4, 4, 4);
        x.group(2, 8);
        due.row("backs", Boards.ofTurns(x, 0), 0, 5, 6, 7, 4, 1, 2, 3);
        due.row("orders", Boards.ofTurns(x, 1), 1, 4, 4, 4, 2, 4, 4, 4);
        due.row("classes", Boards.ofTurns(x, 2), 0, 1, 2, 3, 4, 1, 2, 3);
        x.group(0, 8);
        due.row("orders", Boards.ofTurns(x, 1), 1, 8, 4, 8, 2, 8, 4, 8);
        due.row("class sizes", Boards.ofTurns(x, 3), 1, 1, 1, 1, 1, 1, 1, 1);
        due.row("alike with", Boards.ofTurns(x, 5), 8, 8, 8, 8, 8, 8, 8, 8);
        for (int bad : new int[] {-1, 8, MAX, MIN}) {
            due.is("turn(" + bad + ", 0)", x.turn(bad, 0), -1);
        }
        for (int bad : new int[] {-1, 6, MAX, MIN}) {
            due.is("turn(0, " + bad + ")", x.turn(0, bad), -1);
        }
        x.group(0, 3);
        due.is("turn(3, 0)", x.turn(3, 0), -1);
    }

    private static void promise6About() {
        due.part("6 about");
        TurnBoards x = new TurnBoards();
        x.group(0, 7);
        due.row("ring of 7", Boards.ofGroup(x), 7, 7, 7, 49, 1);
        x.group(1, 3);
        due.row("flips of 3", Boards.ofGroup(x), 6, 3, 1, 18, 0);
        x.group(1, 4);
        due.row("flips of 4", Boards.ofGroup(x), 8, 5, 2, 40, 0);
        x.group(2, 8);
        due.row("crossed", Boards.ofGroup(x), 8, 5, 2, 40, 0);
        for (int bad : new int[] {-1, 5, MAX, MIN}) {
            due.is("about(" + bad + ")", x.about(bad), -1);
        }
    }

    private static void promise7Worth() {
        due.part("7 worth");
        TurnBoards x = new TurnBoards();
        x.group(2, 8);
        due.is("worth(5, 9)", x.worth(5, 9), 1);
        due.is("worth(1, 0)", x.worth(1, 0), 9);
        due.is("worth(2, 4)", x.worth(2, 4), 1);
        due.row("worths", Boards.ofTurns(x, 4), 1, 0, 4, 1, 1, 0, 4, 1);
        for (int bad : new int[] {-1, 8, MAX, MIN}) {
            due.is("worth(" + bad + ", 1)", x.worth(bad, 1), -1);
        }
        for (int bad : new int[] {-1, 10, MAX, MIN}) {
            due.is("worth(2, " + bad + ")", x.worth(2, bad), -1);
        }
        due.row("refused", Boards.ofTurns(x, 4), 1, 0, 4, 1, 1, 0, 4, 1);
        due.is("no act", x.many(6), 0);
    }

    // ---- the board

    private static void promise8Point() {
        due.part("8 point");
        TurnBoards x = new TurnBoards();
        for (int p = 0; p < 6; p++) {
            due.is("point()", x.point(), p);
        }
        due.is("point()", x.point(), -3);
        due.is("many(0)", x.many(0), 6);
        due.is("many(4)", x.many(4), 6);
    }

    private static void promise9Line() {
        due.part("9 line");
        TurnBoards x = Boards.withPoints(2);
        for (int bad : new int[] {-1, 2, 6, MAX, MIN}) {
            due.is("line(" + bad + ", 0)", x.line(bad, 0), -1);
            due.is("line(0, " + bad + ")", x.line(0, bad), -1);
        }
        due.is("refused", x.many(1), 0);
        for (int i = 0; i < 10; i++) {
            due.is("line", x.line(i % 2, i / 2 % 2), i);
            due.is("at", x.at(i), 0);
        }
        due.is("line(2, 0), full", x.line(2, 0), -1);
        due.is("line(0, 0), full", x.line(0, 0), -3);
        due.is("many(1)", x.many(1), 10);
    }

    private static void promise10Walk() {
        due.part("10 walk");
        TurnBoards x = Boards.withPoints(3);
        for (int bad : new int[] {-1, 3, MAX, MIN}) {
            due.is("walk(" + bad + ")", x.walk(bad), -1);
        }
        for (int w = 0; w < 8; w++) {
            due.is("walk", x.walk(w % 3), w);
            due.is("steps", x.told(w, 0), 0);
            due.is("ends", x.told(w, 1), w % 3);
        }
        due.is("walk(3), full", x.walk(3), -1);
        due.is("walk(0), full", x.walk(0), -3);
        due.is("many(2)", x.many(2), 8);
    }

    private static void promise11Step() {
        due.part("11 step");
        TurnBoards x = Boards.withPoints(3);
        x.line(0, 1);
        x.line(1, 2);
        x.walk(0);
        for (int bad : new int[] {-1, 1, 8, MAX, MIN}) {
            due.is("step(" + bad + ", 0)", x.step(bad, 0, false), -1);
        }
        for (int bad : new int[] {-1, 2, 10, MAX, MIN}) {
            due.is("step(0, " + bad + ")", x.step(0, bad, true), -1);
        }
        due.is("begins elsewhere", x.step(0, 1, false), -2);
        due.is("ends elsewhere", x.step(0, 0, true), -2);
        due.is("refused", x.told(0, 0), 0);
        due.is("step", x.step(0, 0, false), 1);
        due.is("step", x.step(0, 1, false), 2);
        due.is("end", x.told(0, 1), 2);
        due.is("step", x.step(0, 1, true), 3);
        due.is("step", x.step(0, 0, true), 4);
        due.is("end", x.told(0, 1), 0);
        due.is("step", x.step(0, 0, false), 5);
        due.is("step", x.step(0, 1, false), 6);
        due.is("state ahead of full", x.step(0, 0, false), -2);
        due.is("bad ahead of full", x.step(0, 2, false), -1);
        due.is("full", x.step(0, 1, true), -3);
        due.is("refused", x.told(0, 0), 6);
        due.is("refused", x.told(0, 1), 2);
        TurnBoards loop = Boards.loops(0, 3, 1, 0);
        loop.walk(0);
        due.is("loop", loop.step(0, 0, false), 1);
        due.is("loop, back", loop.step(0, 0, true), 2);
    }

    private static void promise12Counts() {
        due.part("12 counts");
        TurnBoards x = Boards.loops(0, 3, 2, 2);
        x.worth(0, 5);
        due.is("weight()", x.weight(), 25);
        due.is("counts(1, false)", x.counts(1, false), 1);
        due.is("weight()", x.weight(), 5);
        due.is("counts(1, false)", x.counts(1, false), 0);
        due.is("counts(1, true)", x.counts(1, true), 0);
        due.is("counts(1, true)", x.counts(1, true), 1);
        due.is("weight()", x.weight(), 25);
        for (int bad : new int[] {-1, 2, 8, MAX, MIN}) {
            due.is("counts(" + bad + ", false)", x.counts(bad, false), -1);
        }
        due.is("refused", x.many(3), 2);
    }

    private static void promise13Told() {
        due.part("13 told");
        TurnBoards x = Boards.triangle(1, 3);
        x.set(0, 1);
        x.set(1, 3);
        x.set(2, 2);
        due.is("steps", x.told(0, 0), 3);
        due.is("end", x.told(0, 1), 0);
        due.is("closed", x.told(0, 2), 1);
        due.is("turn: 1 3 is 4, 4 2 is 5", x.told(0, 3), 5);
        due.is("counts", x.told(0, 4), 1);
        x.walk(0);
        due.is("no steps: end", x.told(1, 1), 0);
        due.is("no steps: not closed", x.told(1, 2), 0);
        due.is("no steps: turn", x.told(1, 3), 0);
        x.step(1, 2, true);
        due.is("end", x.told(1, 1), 2);
        due.is("not closed", x.told(1, 2), 0);
        due.is("turn of a step back", x.told(1, 3), 1);
        x.step(1, 1, true);
        due.is("turn: 1 3 is 4", x.told(1, 3), 4);
        x.counts(1, false);
        due.is("counts", x.told(1, 4), 0);
        for (int bad : new int[] {-1, 2, MAX, MIN}) {
            due.is("told(" + bad + ", 0)", x.told(bad, 0), -1);
        }
        for (int bad : new int[] {-1, 5, MAX, MIN}) {
            due.is("told(0, " + bad + ")", x.told(0, bad), -1);
        }
    }

    private static void promise14Drop() {
        due.part("14 drop");
        TurnBoards x = Boards.loops(0, 3, 2, 2);
        x.counts(1, false);
        due.is("drop()", x.drop(), 1);
        due.is("told(1, 0)", x.told(1, 0), -1);
        due.is("many(2)", x.many(2), 1);
        due.is("walk(0)", x.walk(0), 1);
        due.is("new: steps", x.told(1, 0), 0);
        due.is("new: counts", x.told(1, 4), 1);
        due.is("drop()", x.drop(), 1);
        due.is("drop()", x.drop(), 0);
        due.is("drop()", x.drop(), -4);
        due.is("weight()", x.weight(), 1);
        due.is("none that count", x.many(3), 0);
        due.is("sum()", x.sum(), 9);
        due.is("flat()", x.flat(), 9);
        for (int w = 0; w < 8; w++) {
            due.is("walk(0)", x.walk(0), w);
        }
        due.is("walk(0)", x.walk(0), -3);
        due.is("drop()", x.drop(), 7);
        due.is("walk(0)", x.walk(0), 7);
    }

    private static void promise15Set() {
        due.part("15 set");
        TurnBoards x = Boards.triangle(0, 4);
        due.is("set(1, 3)", x.set(1, 3), 0);
        due.is("set(1, 2)", x.set(1, 2), 3);
        due.is("set(1, 2)", x.set(1, 2), 2);
        due.row("lines", Boards.lineTurns(x), 0, 2, 0);
        due.is("acts", x.many(6), 3);
        for (int bad : new int[] {-1, 3, 10, MAX, MIN}) {
            due.is("set(" + bad + ", 0)", x.set(bad, 0), -1);
        }
        for (int bad : new int[] {-1, 4, 8, MAX, MIN}) {
            due.is("set(1, " + bad + ")", x.set(1, bad), -1);
        }
        due.row("refused", Boards.lineTurns(x), 0, 2, 0);
        due.is("refused: acts", x.many(6), 3);
    }

    private static void promise16At() {
        due.part("16 at");
        TurnBoards x = Boards.triangle(0, 4);
        x.set(2, 3);
        due.is("at(0)", x.at(0), 0);
        due.is("at(2)", x.at(2), 3);
        for (int bad : new int[] {-1, 3, 10, MAX, MIN}) {
            due.is("at(" + bad + ")", x.at(bad), -1);
        }
    }

    private static void promise17Weight() {
        due.part("17 weight");
        TurnBoards x = Boards.loops(0, 8, 8, 8);
        for (int a = 0; a < 8; a++) {
            x.worth(a, a + 2);
        }
        due.is("all at 0", x.weight(), 256);
        for (int i = 0; i < 8; i++) {
            x.set(i, 7);
        }
        due.is("the most", x.weight(), 43046721);
        x.set(0, 3);
        due.is("one other", x.weight(), 5 * 4782969);
        x.worth(3, 0);
        due.is("one of none", x.weight(), 0);
        x.counts(0, false);
        due.is("that does not count", x.weight(), 4782969);
        TurnBoards open = Boards.triangle(0, 3);
        open.worth(0, 7);
        open.walk(0);
        due.is("no steps", open.weight(), 7);
        open.step(1, 0, false);
        due.is("not closed", open.weight(), 7);
        open.step(1, 0, true);
        due.is("closed", open.weight(), 49);
    }

    private static void promise18Twist() {
        due.part("18 twist");
        TurnBoards x = Boards.triangle(1, 3);
        x.line(1, 1);
        x.set(0, 1);
        x.set(1, 4);
        x.set(2, 2);
        x.set(3, 1);
        x.worth(1, 3);
        x.worth(3, 5);
        // to 1: 1 3 is 4; from 1: 3 4 is 2; at 1: 3 1 is 5, 5 3 is 2
        due.is("twist(1, 3)", x.twist(1, 3), 3);
        due.row("lines", Boards.lineTurns(x), 4, 2, 2, 2);
        due.is("act", x.many(6), 5);
        due.is("weight stays", x.weight(), 5);
        // 2 turns by 1: to it 2 2 is 1, from it 1 2 is 0
        due.is("twist(2, 1)", x.twist(2, 1), 2);
        due.row("lines", Boards.lineTurns(x), 4, 1, 0, 2);
        due.is("by 0", x.twist(1, 0), 0);
        due.is("an act all the same", x.many(6), 7);
        // 1 turned by 1 leaves 2 at the loop as it is
        due.is("twist(1, 1)", x.twist(1, 1), 2);
        for (int bad : new int[] {-1, 3, 6, MAX, MIN}) {
            due.is("twist(" + bad + ", 0)", x.twist(bad, 0), -1);
        }
        for (int bad : new int[] {-1, 6, 8, MAX, MIN}) {
            due.is("twist(0, " + bad + ")", x.twist(0, bad), -1);
        }
        due.is("refused: acts", x.many(6), 8);
        due.is("undo()", x.undo(), 7);
        due.row("undone", Boards.lineTurns(x), 4, 1, 0, 2);
        TurnBoards bare = Boards.withPoints(1);
        due.is("no lines", bare.twist(0, 0), 0);
        TurnBoards full = Boards.fullBoard(0, 5);
        due.is("twist(0, 2)", full.twist(0, 2), 1);
        due.is("twist(5, 1)", full.twist(5, 1), 1);
        due.is("twist(3, 4)", full.twist(3, 4), 2);
        due.row("lines", Boards.lineTurns(full), 1, 1, 4, 0, 3, 0, 0, 0, 0, 0);
    }

    private static void promise19Still() {
        due.part("19 still");
        TurnBoards x = Boards.triangle(1, 3);
        x.set(0, 1);
        x.set(1, 4);
        x.set(2, 2);
        // 1 is turned by 1, 2 by 1 4, that is 5; then line 2 has 5 2, that is 3
        due.is("still()", x.still(), 3);
        due.row("lines", Boards.lineTurns(x), 0, 0, 3);
        due.is("acts", x.many(6), 4);
        due.is("nothing more", x.still(), 0);
        due.is("an act all the same", x.many(6), 5);
        due.is("undo()", x.undo(), 4);
        due.is("undo()", x.undo(), 3);
        due.row("undone", Boards.lineTurns(x), 1, 4, 2);
        promise19StillAgainstLines();
        promise19StillLongWay();
        due.is("a new object", new TurnBoards().still(), 0);
    }

    /** Two PARTS; THE TREE is met from its far end, LINES go against the way. */
    private static void promise19StillAgainstLines() {
        TurnBoards x = Boards.withPoints(6);
        x.group(2, 8);
        x.line(5, 4);
        x.line(4, 2);
        x.line(2, 0);
        x.line(0, 0);
        x.line(1, 3);
        x.line(5, 5);
        x.line(5, 0);
        int[] turns = {1, 2, 3, 1, 6, 1, 7};
        for (int i = 0; i < turns.length; i++) {
            x.set(i, turns[i]);
        }
        // from 0 on: 2 by back of k: -k; 4 by -k -j: -i; 5 by -i -i: -1; so line 6 has -1 -k: k
        due.is("still()", x.still(), 5);
        due.row("lines", Boards.lineTurns(x), 0, 0, 0, 1, 0, 1, 3);
    }

    /** Each POINT is reached by the one behind it alone; the least one stays, turned or not. */
    private static void promise19StillLongWay() {
        TurnBoards x = Boards.fullBoard(1, 4);
        for (int i = 0; i < 10; i++) {
            x.set(i, 1 + i % 7);
        }
        x.twist(5, 7);
        x.twist(0, 6);
        int loop = x.at(5);
        int other = x.turn(x.at(9), 2);
        x.still();
        for (int i = 0; i < 5; i++) {
            due.is("line " + i, x.at(i), 0);
        }
        due.is("loop at the least point", x.at(5), loop);
        due.is("class of another loop", x.turn(x.at(9), 2), other);
        x.set(0, 3);
        due.is("only the last point", x.still(), 1);
        TurnBoards ahead = Boards.withPoints(4);
        ahead.group(2, 8);
        int[][] ends = {{0, 1}, {0, 2}, {1, 3}, {2, 3}, {3, 0}};
        for (int i = 0; i < ends.length; i++) {
            ahead.line(ends[i][0], ends[i][1]);
            ahead.set(i, i + 1);
        }
        // 1 by i, 2 by j, 3 by i k: -j; so line 3 has j -1 j: 1, line 4 has -j -i: -k
        due.is("still()", ahead.still(), 5);
        due.row("lines", Boards.lineTurns(ahead), 0, 0, 0, 0, 7);
        TurnBoards far = Boards.withPoints(3);
        far.group(2, 8);
        far.line(1, 2);
        far.line(0, 1);
        far.line(0, 0);
        far.set(0, 1);
        far.set(1, 2);
        far.set(2, 1);
        due.is("the tree's far line first", far.still(), 2);
        due.row("lines", Boards.lineTurns(far), 0, 0, 1);
    }

    private static void promise20Undo() {
        due.part("20 undo");
        TurnBoards x = Boards.triangle(0, 5);
        due.is("undo()", x.undo(), -4);
        x.set(0, 2);
        x.twist(1, 3);
        x.still();
        x.sheet(0, 0, 3);
        Boards.layAll(x, 0, 0, 4, 0, 3);
        int[] stilled = Boards.lineTurns(x);
        due.is("fill", x.fill(0, 0, 0), 2);
        due.is("many(6)", x.many(6), 5);
        due.is("undo()", x.undo(), 4);
        due.row("one line of fill", Boards.lineTurns(x), 4, 0, stilled[2]);
        due.is("undo()", x.undo(), 3);
        due.row("both", Boards.lineTurns(x), stilled);
        due.is("undo()", x.undo(), 2);
        due.row("still", Boards.lineTurns(x), 4, 3, 0);
        due.is("undo()", x.undo(), 1);
        due.row("twist", Boards.lineTurns(x), 2, 0, 0);
        x.set(2, 1);
        due.is("undo()", x.undo(), 1);
        due.is("undo()", x.undo(), 0);
        due.row("set", Boards.lineTurns(x), 0, 0, 0);
        due.is("undo()", x.undo(), -4);
        // what came behind the act and is no act stays
        x.twist(0, 2);
        x.line(0, 1);
        x.worth(1, 3);
        due.is("undo()", x.undo(), 0);
        due.row("lines", Boards.lineTurns(x), 0, 0, 0, 0);
        due.is("worth", x.turn(1, 4), 3);
    }

    private static void promise20UndoKeepsEight() {
        due.part("20 undo, eight");
        TurnBoards x = Boards.triangle(0, 8);
        for (int i = 1; i <= 11; i++) {
            x.set(i % 3, i % 8);
            due.is("many(6)", x.many(6), Math.min(i, 8));
        }
        for (int left = 7; left >= 0; left--) {
            due.is("undo()", x.undo(), left);
        }
        due.is("undo()", x.undo(), -4);
        due.row("the first three stay done", Boards.lineTurns(x), 3, 1, 2);
        TurnBoards wide = Boards.loops(0, 2, 10, 0);
        wide.sheet(1, 1, 10);
        Boards.layAll(wide, 1, 0, 1, 1, 1, 1, 1, 1, 1, 1, 1, 1);
        due.is("fill", wide.fill(1, 1, 0), 10);
        due.is("many(6)", wide.many(6), 8);
        for (int left = 7; left >= 0; left--) {
            due.is("undo()", wide.undo(), left);
        }
        due.row("the first two stay filled", Boards.lineTurns(wide), 1, 1, 0, 0, 0, 0, 0, 0, 0, 0);
    }

    private static void promise21Tree() {
        due.part("21 tree");
        TurnBoards x = Boards.withPoints(5);
        int[][] ends = {{1, 1}, {3, 4}, {4, 3}, {0, 1}, {1, 3}, {0, 4}, {2, 2}, {4, 2}, {2, 0}};
        int[] want = {0, 1, 0, 1, 1, 0, 0, 1, 0};
        for (int i = 0; i < ends.length; i++) {
            x.line(ends[i][0], ends[i][1]);
        }
        for (int i = 0; i < ends.length; i++) {
            due.is("tree(" + i + ")", x.tree(i), want[i]);
        }
        due.is("many(5)", x.many(5), 4);
        due.is("many(4)", x.many(4), 1);
        for (int bad : new int[] {-1, 9, 10, MAX, MIN}) {
            due.is("tree(" + bad + ")", x.tree(bad), -1);
        }
    }

    // ---- sums

    private static void promise22Sum() {
        due.part("22 sum");
        TurnBoards x = Boards.triangle(0, 3);
        due.is("all ways", x.sum(), 27);
        x.worth(0, 2);
        x.worth(1, 5);
        x.worth(2, 0);
        due.is("9 ways each", x.sum(), 9 * 7);
        x.set(0, 2);
        due.is("what the lines have is no matter", x.sum(), 63);
        due.is("lines stay", x.at(0), 2);
        x.walk(0);
        due.is("no steps", x.sum(), 63);
        x.step(1, 0, false);
        due.is("not closed", x.sum(), 63);
        x.step(1, 0, true);
        due.is("always at 0", x.sum(), 126);
        x.counts(1, false);
        due.is("does not count", x.sum(), 63);
        x.point();
        x.line(0, 3);
        due.is("a line more of the tree", x.sum(), 189);
        x.line(3, 3);
        due.is("a line more besides", x.sum(), 567);
        TurnBoards twice = Boards.loops(1, 3, 1, 0);
        twice.walk(0);
        twice.step(0, 0, false);
        twice.step(0, 0, false);
        twice.worth(0, 3);
        twice.worth(1, 4);
        // squares: four TURNS give 0, each of the turned ones the other
        due.is("a line gone twice", twice.sum(), 4 * 3 + 2 * 4);
    }

    private static void promise22SumSpent() {
        due.part("22 sum, spent");
        int[][] most = {{1, 10}, {2, 10}, {3, 9}, {4, 7}, {5, 6}, {6, 5}, {7, 5}, {8, 5}};
        for (int[] each : most) {
            TurnBoards x = Boards.loops(0, each[0], each[1], 1);
            long ways = 1;
            for (int i = 0; i < each[1]; i++) {
                ways *= each[0];
            }
            due.is("sum of " + each[0], x.sum(), ways);
            due.is("flat of " + each[0], x.flat(), ways / each[0]);
            x.point();
            x.line(0, 1);
            if (each[1] < 10) {
                due.is("a line of the tree more", x.sum(), ways * each[0]);
            }
            TurnBoards more = Boards.loops(0, each[0], each[1] + 1, 1);
            if (each[1] < 10) {
                due.is("sum of " + each[0], more.sum(), -6);
            }
        }
        TurnBoards x = Boards.withPoints(6);
        x.group(2, 8);
        for (int p = 0; p < 5; p++) {
            x.line(p, p + 1);
        }
        for (int i = 0; i < 5; i++) {
            x.line(0, 0);
        }
        for (int w = 0; w < 8; w++) {
            x.walk(0);
            for (int s = 0; s < 6; s++) {
                x.step(w, 5 + (w + s) % 5, s % 2 == 0);
            }
        }
        for (int a = 0; a < 8; a++) {
            x.worth(a, 9);
        }
        due.is("the greatest sum", x.sum(), (1L << 30) * 43046721L);
        due.is("held by all", x.sumBy(0, 0) + x.sumBy(0, 4) + x.sumBy(0, 1) + x.sumBy(0, 2)
            + x.sumBy(0, 3), (1L << 30) * 43046721L);
    }

    private static void promise23SumBy() {
        due.part("23 sumBy");
        TurnBoards x = Boards.triangle(1, 3);
        x.worth(1, 2);
        x.worth(3, 3);
        due.is("by 0", x.sumBy(0, 0), 36);
        due.is("by 1: two turns of worth 2", x.sumBy(0, 1), 36 * 4);
        due.is("by 2: the same class", x.sumBy(0, 2), 36 * 4);
        due.is("by 5: three turns of worth 3", x.sumBy(0, 5), 36 * 9);
        x.counts(0, false);
        due.is("held, though it does not count", x.sumBy(0, 4), 36 * 3);
        x.walk(0);
        due.is("no steps", x.sumBy(1, 0), -1);
        x.step(1, 0, false);
        due.is("not closed", x.sumBy(1, 0), -1);
        x.step(1, 0, true);
        due.is("always at 0", x.sumBy(1, 0), 216);
        due.is("never at 1", x.sumBy(1, 1), 0);
        for (int bad : new int[] {-1, 2, 8, MAX, MIN}) {
            due.is("sumBy(" + bad + ", 0)", x.sumBy(bad, 0), -1);
        }
        for (int bad : new int[] {-1, 6, 8, MAX, MIN}) {
            due.is("sumBy(0, " + bad + ")", x.sumBy(0, bad), -1);
        }
        TurnBoards spent = Boards.loops(0, 8, 6, 1);
        due.is("bad ahead of spent", spent.sumBy(1, 0), -1);
        due.is("bad ahead of spent", spent.sumBy(0, 8), -1);
        due.is("spent", spent.sumBy(0, 0), -6);
        spent.walk(0);
        due.is("not closed ahead of spent", spent.sumBy(1, 0), -1);
    }

    private static void promise24Mean() {
        due.part("24 mean");
        TurnBoards x = Boards.triangle(1, 3);
        x.worth(1, 2);
        x.worth(3, 3);
        // 1 to 4 to 9, of 14
        due.is("mean(0, 0, 0)", x.mean(0, 0, 0), 1);
        due.is("mean(0, 0, 1)", x.mean(0, 0, 1), 14);
        due.is("mean(0, 2, 0)", x.mean(0, 2, 0), 2);
        due.is("mean(0, 2, 1)", x.mean(0, 2, 1), 7);
        due.is("mean(0, 5, 0)", x.mean(0, 5, 0), 9);
        due.is("mean(0, 5, 1)", x.mean(0, 5, 1), 14);
        x.worth(1, 0);
        due.is("none: numerator", x.mean(0, 1, 0), 0);
        due.is("none: denominator", x.mean(0, 1, 1), 1);
        x.worth(3, 0);
        due.is("all: numerator", x.mean(0, 0, 0), 1);
        due.is("all: denominator", x.mean(0, 0, 1), 1);
        x.worth(0, 0);
        due.is("sum()", x.sum(), 0);
        due.is("sum is 0", x.mean(0, 0, 0), -2);
        due.is("sum is 0", x.mean(0, 0, 1), -2);
        TurnBoards odd = Boards.loops(0, 3, 1, 1);
        odd.worth(1, 2);
        odd.worth(2, 4);
        due.is("nothing shared: numerator", odd.mean(0, 2, 0), 4);
        due.is("nothing shared: denominator", odd.mean(0, 2, 1), 7);
        TurnBoards one = Boards.loops(0, 1, 1, 1);
        due.is("sum is 1: numerator", one.mean(0, 0, 0), 1);
        due.is("sum is 1: denominator", one.mean(0, 0, 1), 1);
        for (int bad : new int[] {-1, 2, MAX, MIN}) {
            due.is("mean(0, 0, " + bad + ")", x.mean(0, 0, bad), -1);
            due.is("mean(" + (bad == 2 ? 1 : bad) + ", 0, 0)", x.mean(bad == 2 ? 1 : bad, 0, 0), -1);
            due.is("mean(0, " + (bad == 2 ? 6 : bad) + ", 0)", x.mean(0, bad == 2 ? 6 : bad, 0), -1);
        }
        x.walk(0);
        x.step(1, 0, false);
        due.is("not closed", x.mean(1, 0, 0), -1);
        TurnBoards spent = Boards.loops(0, 8, 6, 1);
        due.is("bad ahead of spent", spent.mean(0, 0, 2), -1);
        due.is("spent", spent.mean(0, 0, 1), -6);
        for (int a = 0; a < 8; a++) {
            spent.worth(a, 0);
        }
        due.is("spent ahead of state", spent.mean(0, 0, 1), -6);
    }

    private static void promise25Flat() {
        due.part("25 flat");
        TurnBoards x = Boards.triangle(1, 3);
        due.is("one walk", x.flat(), 36);
        x.worth(0, 0);
        due.is("worths are no matter", x.flat(), 36);
        x.counts(0, false);
        due.is("does not count", x.flat(), 216);
        TurnBoards pairs = Boards.loops(1, 3, 2, 0);
        pairs.walk(0);
        due.is("no steps", pairs.flat(), 36);
        pairs.step(0, 0, false);
        pairs.step(0, 1, false);
        pairs.step(0, 0, true);
        pairs.step(0, 1, true);
        due.is("pairs that go alike", pairs.flat(), 18);
        due.is("told by about()", pairs.flat(), pairs.about(3));
        due.is("spent", Boards.loops(0, 6, 6, 1).flat(), -6);
    }

    // ---- sheets

    private static void promise26Sheet() {
        due.part("26 sheet");
        TurnBoards x = new TurnBoards();
        due.is("sheet(0, 2, 0)", x.sheet(0, 2, 0), 1);
        due.is("no cells are not nothing", x.many(7), 0);
        due.is("sheet(0, 1, 64)", x.sheet(0, 1, 64), 1);
        due.is("cells", x.many(7), 64);
        due.is("read as shorts", x.read(0, 1, 63, 1), 1);
        x.lay(0, 63, 1);
        due.is("laid", x.read(0, 1, 63, 1), -100);
        due.is("size ahead of nothing else", x.sheet(0, 1, -1), -14);
        due.is("size", x.sheet(3, 0, MIN), -14);
        for (int bad : new int[] {-1, 4, MAX, MIN}) {
            due.is("sheet(" + bad + ", 0, 1)", x.sheet(bad, 0, 1), -1);
            due.is("bad ahead of size", x.sheet(bad, 0, -1), -1);
        }
        for (int bad : new int[] {-1, 3, MAX, MIN}) {
            due.is("sheet(0, " + bad + ", 1)", x.sheet(0, bad, 1), -1);
            due.is("bad ahead of size", x.sheet(0, bad, -1), -1);
        }
        due.is("sheet(0, 0, 65)", x.sheet(0, 0, 65), -1);
        due.is("sheet(0, 0, MAX)", x.sheet(0, 0, MAX), -1);
        due.is("refused", x.many(7), 64);
        due.is("refused", x.read(0, 1, 63, 1), -100);
        due.is("refused: still nothing", x.lay(3, 0, 0), -11);
        due.is("new row", x.sheet(0, 0, 64), 1);
        due.is("all cells 0", x.read(0, 0, 63, 1), 1);
        due.is("another lane", x.read(0, 1, 63, 1), -13);
        x.lay(0, 0, 1);
        x.lay(0, 5, 1);
        x.sheet(0, 0, 3);
        due.is("the first cell too", x.read(0, 0, 0, 1), 1);
        x.sheet(0, 0, 6);
        due.is("0 also where it was shorter", x.read(0, 0, 5, 1), 1);
    }

    private static void promise27Lay() {
        due.part("27 lay");
        TurnBoards x = new TurnBoards();
        x.sheet(1, 0, 2);
        for (int bad : new int[] {-1, 4, MAX, MIN}) {
            due.is("lay(" + bad + ", 0, 0)", x.lay(bad, 0, 0), -1);
        }
        due.is("nothing", x.lay(0, 0, 1), -11);
        due.is("nothing ahead of index", x.lay(0, -1, 1), -11);
        for (int bad : new int[] {-1, 2, 64, MAX, MIN}) {
            due.is("lay(1, " + bad + ", 1)", x.lay(1, bad, 1), -12);
        }
        due.is("lay(1, 1, 1)", x.lay(1, 1, 1), 1);
        dueLowBits(0, 256 + 7, 7);
        dueLowBits(0, 128, -21);
        dueLowBits(0, -250, 6);
        dueLowBits(1, 256 + 7, -21);
        dueLowBits(1, 65536 + 5, 5);
        dueLowBits(1, 32768, -21);
        dueLowBits(2, 65536 + 5, -21);
        dueLowBits(2, -1, -21);
        dueLowBits(2, 7, 7);
    }

    /** What a CELL of a lane has after v is laid, or -21 if that is no TURN. */
    private static void dueLowBits(int lane, int v, int want) {
        TurnBoards x = Boards.loops(0, 8, 2, 0);
        x.sheet(2, lane, 2);
        x.lay(2, 1, v);
        int filled = x.fill(2, lane, 0);
        due.is("lay " + v + " in lane " + lane, filled < 0 ? filled : x.at(1), want);
    }

    private static void promise28Fill() {
        due.part("28 fill");
        for (int lane = 0; lane < 3; lane++) {
            TurnBoards x = Boards.triangle(0, 8);
            x.set(1, 5);
            x.sheet(3, lane, 5);
            Boards.layAll(x, 3, 1, 7, 5, 2);
            due.is("fill", x.fill(3, lane, 1), 2);
            due.row("lines", Boards.lineTurns(x), 7, 5, 2);
            due.is("acts", x.many(6), 3);
            due.is("again", x.fill(3, lane, 1), 0);
            due.is("no acts", x.many(6), 3);
            due.is("undo()", x.undo(), 2);
            due.row("the last line first", Boards.lineTurns(x), 7, 5, 0);
            due.is("undo()", x.undo(), 1);
            due.row("then the first", Boards.lineTurns(x), 0, 5, 0);
        }
        TurnBoards bare = new TurnBoards();
        due.is("no lines, nothing", bare.fill(0, 0, 0), -11);
        bare.sheet(0, 1, 0);
        due.is("no lines, cast", bare.fill(0, 0, 0), -13);
        due.is("no lines", bare.fill(0, 1, MIN), 0);
    }

    private static void promise28FillFaults() {
        due.part("28 fill, faults");
        TurnBoards x = Boards.triangle(0, 4);
        x.sheet(0, 1, 4);
        Boards.layAll(x, 0, 0, 1, 2, 3, 4);
        for (int bad : new int[] {-1, 4, MAX, MIN}) {
            due.is("fill(" + bad + ", 0, 0)", x.fill(bad, 0, 0), -1);
        }
        for (int bad : new int[] {-1, 3, MAX, MIN}) {
            due.is("fill(0, " + bad + ", 0)", x.fill(0, bad, 0), -1);
            due.is("lane ahead of nothing", x.fill(1, bad, 0), -1);
        }
        due.is("nothing", x.fill(1, 0, -1), -11);
        due.is("cast", x.fill(0, 0, -1), -13);
        due.is("cast", x.fill(0, 2, 0), -13);
        for (int bad : new int[] {-1, 4, MAX, MIN}) {
            due.is("fill(0, 1, " + bad + ")", x.fill(0, 1, bad), -12);
        }
        due.is("no turn, the last", x.fill(0, 1, 1), -22);
        due.is("no turn ahead of index", x.fill(0, 1, 2), -21);
        due.is("no turn ahead of index", x.fill(0, 1, 3), -20);
        x.lay(0, 3, 0);
        due.is("index at the last", x.fill(0, 1, 2), -12);
        x.lay(0, 1, -1);
        due.is("below 0", x.fill(0, 1, 0), -21);
        due.row("none changed", Boards.lineTurns(x), 0, 0, 0);
        due.is("no acts", x.many(6), 0);
    }

    private static void promise29Many() {
        due.part("29 many");
        TurnBoards x = Boards.withPoints(6);
        x.group(0, 3);
        x.line(0, 1);
        x.line(1, 0);
        x.line(4, 2);
        x.line(3, 3);
        x.walk(0);
        x.step(0, 0, false);
        x.step(0, 1, false);
        x.walk(0);
        x.step(1, 0, false);
        x.walk(3);
        x.step(2, 3, false);
        x.walk(5);
        x.set(0, 1);
        x.still();
        x.sheet(0, 2, 17);
        int[] want = {6, 4, 4, 2, 4, 2, 2, 17};
        for (int what = 0; what < want.length; what++) {
            due.is("many(" + what + ")", x.many(what), want[what]);
        }
        x.counts(2, false);
        due.is("closed that count", x.many(3), 1);
        x.sheet(1, 0, 5);
        due.is("sheet 0 alone", x.many(7), 17);
        for (int bad : new int[] {-1, 8, MAX, MIN}) {
            due.is("many(" + bad + ")", x.many(bad), -1);
        }
    }
}
