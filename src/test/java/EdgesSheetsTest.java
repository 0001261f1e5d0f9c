/** Edges that the document names for SHEETS: promises 26 to 29, and the terms that they use. */
public final class EdgesSheetsTest {
    private static final int MAX = Integer.MAX_VALUE, MIN = Integer.MIN_VALUE;
    private static final Due due = new Due();

    public static void main(String[] args) {
        noCellsTo64();
        sizeBelowZero();
        sheetsAndLanes();
        newRowOfZeros();
        sheetsStandApart();
        layIndex();
        layNothing();
        lowestBitsOfBytes();
        lowestBitsOfShorts();
        allBitsOfInts();
        castOfEachLane();
        orderOfFaults();
        fillNoLines();
        fillUpToTheLastCell();
        fillGreatestAndLeastCell();
        fillTheFirstMet();
        fillTurnsUpToTheLast();
        fillActs();
        fillMoreThanEightActs();
        manyOfNone();
        manyOfFull();
        manyCellsOfSheet0();
        manyBad();
        due.end();
    }

    /** A board whose LINES are loops of the RING of 8. */
    private static TurnBoards withLines(int lines) {
        return Boards.loops(0, 8, lines, 0);
    }

    private static void noCellsTo64() {
        due.part("26: 0 to 64 CELLS");
        for (int lane = 0; lane < 3; lane++) {
            for (int n = 0; n <= 64; n++) {
                TurnBoards x = new TurnBoards();
                due.is("sheet", x.sheet(0, lane, n), 1);
                due.is("many(7)", x.many(7), n);
                due.is("the last CELL", x.lay(0, n - 1, 1), n == 0 ? -12 : 1);
                due.is("one past", x.lay(0, n, 1), -12);
            }
            TurnBoards x = new TurnBoards();
            for (int n : new int[] {65, 66, 100, MAX}) {
                due.is("sheet(0, lane, " + n + ")", x.sheet(0, lane, n), -1);
                due.is("still nothing", x.many(7), -4);
            }
        }
    }

    private static void sizeBelowZero() {
        due.part("26: -10 - 4: SIZE (below 0)");
        for (int k = 0; k < 4; k++) {
            TurnBoards x = new TurnBoards();
            for (int n : new int[] {-1, -2, -64, -65, MIN, MIN + 1}) {
                due.is("sheet(k, 0, " + n + ")", x.sheet(k, 0, n), -14);
                due.is("still nothing", x.lay(k, 0, 0), -11);
            }
            x.sheet(k, 2, 1);
            due.is("SIZE", x.sheet(k, 2, -1), -14);
            due.is("the row stays", x.lay(k, 0, 0), 1);
        }
    }

    private static void sheetsAndLanes() {
        due.part("26: SHEETS 0 to 3, lanes 0 to 2");
        for (int k = -2; k <= 5; k++) {
            for (int lane = -2; lane <= 4; lane++) {
                boolean is = k >= 0 && k <= 3 && lane >= 0 && lane <= 2;
                TurnBoards x = new TurnBoards();
                due.is("sheet(" + k + ", " + lane + ", 1)", x.sheet(k, lane, 1), is ? 1 : -1);
                due.is("BAD ahead of SIZE", x.sheet(k, lane, -1), is ? -14 : -1);
                due.is("65", x.sheet(k, lane, 65), -1);
            }
        }
    }

    private static void newRowOfZeros() {
        due.part("26: a new row of CELLS 0");
        for (int lane = 0; lane < 3; lane++) {
            TurnBoards x = withLines(1);
            x.sheet(2, lane, 64);
            for (int i = 0; i < 64; i++) {
                x.lay(2, i, 1 + i % 7);
            }
            due.is("laid", x.fill(2, lane, 63), 1);
            due.is("the last CELL", x.at(0), 1);
            due.is("sheet", x.sheet(2, lane, 64), 1);
            for (int i = 0; i < 64; i++) {
                due.is("CELL " + i, x.read(2, lane, i, 1), 1);
            }
        }
        TurnBoards x = withLines(1);
        x.sheet(0, 0, 64);
        x.lay(0, 63, 5);
        x.sheet(0, 0, 0);
        x.sheet(0, 1, 64);
        due.is("0 behind a row of none", x.fill(0, 1, 63), 0);
    }

    private static void sheetsStandApart() {
        due.part("SHEETS stand apart");
        TurnBoards x = withLines(1);
        for (int k = 0; k < 4; k++) {
            x.sheet(k, k % 3, k + 1);
            x.lay(k, k, k + 1);
        }
        for (int k = 0; k < 4; k++) {
            due.is("fill", x.fill(k, k % 3, k), 1);
            due.is("at(0)", x.at(0), k + 1);
            due.is("past its end", x.fill(k, k % 3, k + 1), -12);
        }
        TurnBoards other = new TurnBoards();
        due.is("another object has nothing", other.lay(0, 0, 0), -11);
    }

    private static void layIndex() {
        due.part("27: INDEX");
        TurnBoards x = new TurnBoards();
        int[] sizes = {0, 1, 63, 64};
        for (int k = 0; k < 4; k++) {
            x.sheet(k, k % 3, sizes[k]);
            due.is("the first", x.lay(k, 0, 1), sizes[k] == 0 ? -12 : 1);
            due.is("the last", x.lay(k, sizes[k] - 1, 1), sizes[k] == 0 ? -12 : 1);
            for (int i : new int[] {-1, sizes[k], sizes[k] + 1, 64, MAX, MIN}) {
                due.is("lay(" + k + ", " + i + ", 1)", x.lay(k, i, 1), -12);
            }
        }
        for (int k : new int[] {-1, 4, 5, MAX, MIN}) {
            due.is("BAD ahead of INDEX", x.lay(k, -1, 1), -1);
        }
    }

    private static void layNothing() {
        due.part("27: NULL");
        TurnBoards x = new TurnBoards();
        for (int k = 0; k < 4; k++) {
            for (int i : new int[] {0, -1, 64, MAX, MIN}) {
                due.is("NULL ahead of INDEX", x.lay(k, i, 1), -11);
            }
        }
        x.sheet(1, 0, 0);
        due.is("no CELLS are not nothing", x.lay(1, 0, 1), -12);
        due.is("another one still is", x.lay(2, 0, 1), -11);
    }

    /** What the CELL has then, or -20 if that is no TURN. */
    private static int laid(int lane, int v) {
        TurnBoards x = withLines(1);
        x.sheet(0, lane, 3);
        x.set(0, 7);
        due.is("lay", x.lay(0, 1, v), 1);
        due.is("the CELL ahead", x.read(0, lane, 0, 1), 1);
        due.is("the CELL behind", x.read(0, lane, 2, 1), 1);
        x.group(0, 8);
        int filled = x.fill(0, lane, 1);
        return filled < 0 ? filled : x.at(0);
    }

    private static void dueLaid(int lane, int v, int want) {
        due.is("lane " + lane + ", lay " + v, laid(lane, v), want);
    }

    private static void lowestBitsOfBytes() {
        due.part("27: the lowest 8 bits in BYTES");
        for (int t = 0; t < 8; t++) {
            for (int high : new int[] {0, 256, -256, 512, 32768, 65536, 1 << 24, MIN, MAX - 255}) {
                dueLaid(0, high + t, t);
            }
            dueLaid(0, 128 + t, -20);
            dueLaid(0, 256 + 128 + t, -20);
            dueLaid(0, 8 + t, -20);
        }
        for (int v : new int[] {-1, 127, 255, -128, -129, MAX}) {
            dueLaid(0, v, -20);
        }
    }

    private static void lowestBitsOfShorts() {
        due.part("27: the lowest 16 bits in SHORTS");
        for (int t = 0; t < 8; t++) {
            for (int high : new int[] {0, 65536, -65536, 1 << 17, 1 << 24, MIN, MAX - 65535}) {
                dueLaid(1, high + t, t);
            }
            for (int high : new int[] {256, 128, 32768, 65536 + 32768, 65536 + 256, -256}) {
                dueLaid(1, high + t, -20);
            }
        }
        for (int v : new int[] {-1, 8, 255, 32767, 65535, -32768, -32769, MAX}) {
            dueLaid(1, v, -20);
        }
    }

    private static void allBitsOfInts() {
        due.part("27: all bits in INTS");
        for (int t = 0; t < 8; t++) {
            dueLaid(2, t, t);
            for (int high : new int[] {8, 256, 32768, 65536, 1 << 24, MIN, -65536, -256}) {
                dueLaid(2, high + t, -20);
            }
        }
        for (int v : new int[] {-1, 8, 255, 65535, MAX, MIN}) {
            dueLaid(2, v, -20);
        }
    }

    private static void castOfEachLane() {
        due.part("CAST (another lane)");
        for (int is = 0; is < 3; is++) {
            for (int as = 0; as < 3; as++) {
                for (int n : new int[] {0, 1, 64}) {
                    TurnBoards x = withLines(1);
                    x.sheet(3, is, n);
                    int want = is != as ? -13 : n == 0 ? -12 : 1;
                    due.is("fill", x.fill(3, as, 0), want == 1 ? 0 : want);
                    due.is("read", x.read(3, as, 0, 1), want);
                }
            }
        }
        TurnBoards x = withLines(1);
        x.sheet(3, 0, 1);
        x.sheet(3, 2, 1);
        due.is("the lane is the new row's", x.fill(3, 2, 0), 0);
        due.is("the lane is the new row's", x.fill(3, 0, 0), -13);
    }

    private static void orderOfFaults() {
        due.part("28: BAD, NULL, CAST, then CELL by CELL");
        TurnBoards x = withLines(1);
        x.sheet(1, 1, 0);
        for (int bad : new int[] {-1, 4, MAX, MIN}) {
            due.is("no such SHEET", x.fill(bad, 0, MIN), -1);
            due.is("no such SHEET, no such lane", x.fill(bad, 3, MIN), -1);
        }
        for (int bad : new int[] {-1, 3, MAX, MIN}) {
            due.is("no such lane ahead of NULL", x.fill(0, bad, MIN), -1);
            due.is("no such lane ahead of CAST", x.fill(1, bad, MIN), -1);
        }
        due.is("NULL ahead of INDEX", x.fill(0, 0, MIN), -11);
        due.is("CAST ahead of INDEX", x.fill(1, 0, MIN), -13);
        due.is("INDEX", x.fill(1, 1, MIN), -12);
    }

    private static void fillNoLines() {
        due.part("28: no LINES: no CELL is read");
        TurnBoards x = new TurnBoards();
        due.is("NULL", x.fill(0, 0, 0), -11);
        x.sheet(0, 0, 0);
        for (int f : new int[] {0, -1, 64, MAX, MIN}) {
            due.is("fill(0, 0, " + f + ")", x.fill(0, 0, f), 0);
            due.is("CAST", x.fill(0, 1, f), -13);
        }
        due.is("no ACTS", x.many(6), 0);
        x.point();
        x.line(0, 0);
        due.is("a LINE, no CELLS", x.fill(0, 0, 0), -12);
    }

    private static void fillUpToTheLastCell() {
        due.part("28: that of LINE i of CELL f + i");
        for (int lane = 0; lane < 3; lane++) {
            for (int lines = 1; lines <= 10; lines++) {
                TurnBoards x = withLines(lines);
                x.sheet(1, lane, 64);
                for (int i = 0; i < lines; i++) {
                    x.lay(1, 64 - lines + i, 1 + i % 7);
                }
                due.is("one past", x.fill(1, lane, 65 - lines), -12);
                due.is("no ACTS", x.many(6), 0);
                due.is("up to the last CELL", x.fill(1, lane, 64 - lines), lines);
                for (int i = 0; i < lines; i++) {
                    due.is("at(" + i + ")", x.at(i), 1 + i % 7);
                }
                x.sheet(1, lane, lines);
                due.is("a SHEET as long", x.fill(1, lane, 0), lines);
                x.sheet(1, lane, lines - 1);
                due.is("a CELL too few", x.fill(1, lane, 0), -12);
            }
        }
    }

    private static void fillGreatestAndLeastCell() {
        due.part("28: a first CELL near the least and the greatest int");
        for (int lines = 1; lines <= 10; lines++) {
            TurnBoards x = withLines(lines);
            x.sheet(0, 2, 64);
            int[] firsts = {MAX, MAX - 1, MAX - 8, MAX - 9, MAX - 10, MIN, MIN + 1, MIN + 9,
                MIN + 10, -1, -2, -9, -10, -64, 64, 65};
            for (int f : firsts) {
                due.is("fill(0, 2, " + f + ")", x.fill(0, 2, f), -12);
            }
        }
    }

    private static void fillTheFirstMet() {
        due.part("28: the first met: then none changed");
        TurnBoards x = withLines(4);
        x.sheet(0, 0, 5);
        Boards.layAll(x, 0, 0, 1, 2, 3, 8, 1);
        due.is("the last LINE", x.fill(0, 0, 0), -23);
        due.is("the third, ahead of INDEX", x.fill(0, 0, 1), -22);
        due.is("the second, ahead of INDEX", x.fill(0, 0, 2), -21);
        due.is("the first, ahead of INDEX", x.fill(0, 0, 3), -20);
        due.is("INDEX behind a TURN", x.fill(0, 0, 4), -12);
        x.lay(0, 1, -1);
        due.is("the first of two", x.fill(0, 0, 0), -21);
        due.row("none changed", Boards.lineTurns(x), 0, 0, 0, 0);
        due.is("no ACTS", x.many(6), 0);
        x.lay(0, 1, 0);
        x.lay(0, 3, 0);
        due.is("well", x.fill(0, 0, 0), 2);
        due.row("lines", Boards.lineTurns(x), 1, 0, 3, 0);
    }

    private static void fillTurnsUpToTheLast() {
        due.part("28: TURNS 0 to n - 1");
        for (int n = 1; n <= 8; n++) {
            TurnBoards x = withLines(10);
            x.group(0, n);
            x.sheet(3, 1, 10);
            x.lay(3, 9, n - 1);
            due.is("the last TURN", x.fill(3, 1, 0), n == 1 ? 0 : 1);
            due.is("at(9)", x.at(9), n - 1);
            x.lay(3, 9, n);
            due.is("no TURN", x.fill(3, 1, 0), -29);
            x.lay(3, 9, -1);
            due.is("no TURN", x.fill(3, 1, 0), -29);
            due.is("at(9)", x.at(9), n - 1);
        }
    }

    private static void fillActs() {
        due.part("28: one ACT for each that has, in order");
        TurnBoards x = withLines(5);
        x.set(1, 4);
        x.sheet(0, 1, 5);
        Boards.layAll(x, 0, 0, 3, 4, 0, 5, 6);
        due.is("fill", x.fill(0, 1, 0), 3);
        due.is("many(6)", x.many(6), 4);
        due.is("undo()", x.undo(), 3);
        due.row("lines", Boards.lineTurns(x), 3, 4, 0, 5, 0);
        due.is("undo()", x.undo(), 2);
        due.row("lines", Boards.lineTurns(x), 3, 4, 0, 0, 0);
        due.is("undo()", x.undo(), 1);
        due.row("lines", Boards.lineTurns(x), 0, 4, 0, 0, 0);
        due.is("undo()", x.undo(), 0);
        due.row("lines", Boards.lineTurns(x), 0, 0, 0, 0, 0);
    }

    private static void fillMoreThanEightActs() {
        due.part("28: more LINES than ACTS that can be undone");
        for (int lines = 7; lines <= 10; lines++) {
            TurnBoards x = withLines(lines);
            x.set(0, 1);
            x.sheet(0, 0, 10);
            Boards.layAll(x, 0, 0, 2, 2, 2, 2, 2, 2, 2, 2, 2, 2);
            due.is("fill", x.fill(0, 0, 0), lines);
            due.is("many(6)", x.many(6), 8);
            for (int left = 7; left >= 0; left--) {
                due.is("undo()", x.undo(), left);
            }
            due.is("undo()", x.undo(), -4);
            due.is("the first LINE", x.at(0), lines == 7 ? 0 : lines == 8 ? 1 : 2);
            due.is("the second LINE", x.at(1), lines == 10 ? 2 : 0);
            due.is("the third LINE", x.at(2), 0);
        }
    }

    private static void manyOfNone() {
        due.part("29: none");
        TurnBoards x = new TurnBoards();
        due.row("many", Boards.ofMany(x), 0, 0, 0, 0, 0, 0, 0, -4);
        x.sheet(0, 0, 0);
        due.row("many", Boards.ofMany(x), 0, 0, 0, 0, 0, 0, 0, 0);
    }

    private static void manyOfFull() {
        due.part("29: full");
        TurnBoards x = new TurnBoards();
        Boards.full(x);
        due.row("many", Boards.ofMany(x), 6, 10, 8, 5, 1, 5, 8, 64);
        x.counts(4, true);
        due.is("CLOSED ones that COUNT", x.many(3), 6);
        x.counts(3, true);
        x.counts(5, true);
        due.is("not CLOSED, no STEPS", x.many(3), 6);
        x.set(0, 0);
        due.is("ACTS", x.many(6), 8);
    }

    private static void manyCellsOfSheet0() {
        due.part("29: CELLS of SHEET 0 (NONE: nothing)");
        TurnBoards x = new TurnBoards();
        for (int k = 1; k < 4; k++) {
            x.sheet(k, 0, 64);
            due.is("another SHEET", x.many(7), -4);
        }
        int[] sizes = {64, 0, 1, 63};
        for (int i = 0; i < sizes.length; i++) {
            x.sheet(0, i % 3, sizes[i]);
            due.is("many(7)", x.many(7), sizes[i]);
        }
        x.sheet(0, 0, 65);
        x.sheet(0, 0, -1);
        due.is("refused", x.many(7), 63);
    }

    private static void manyBad() {
        due.part("29: BAD");
        TurnBoards x = new TurnBoards();
        Boards.full(x);
        for (int bad : new int[] {-1, -2, 8, 9, MAX, MIN}) {
            due.is("many(" + bad + ")", x.many(bad), -1);
        }
    }
}
