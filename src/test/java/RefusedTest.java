/** What is refused changes nothing: each refused call, with a look at everything behind it. */
public final class RefusedTest {
    private static final int MAX = Integer.MAX_VALUE, MIN = Integer.MIN_VALUE;
    private static final int[] ODD = {-1, MAX, MIN};
    private static final Due due = new Due();
    private static final Twins twins = new Twins(due);

    public static void main(String[] args) {
        looksSeeChanges();
        group();
        read();
        readCells();
        readProofs();
        asked();
        worth();
        point();
        line();
        walk();
        step();
        counts();
        drop();
        set();
        twist();
        undo();
        sums();
        sumsSpent();
        sheet();
        lay();
        fill();
        fillCells();
        due.end();
    }

    /** On a new object, on one with something of everything, and on a full one. */
    private static void everywhere(String call, Twins.Call asked, long want) {
        twins.refused("new: " + call, x -> { }, asked, want);
        twins.refused("some: " + call, Boards::some, asked, want);
        twins.refused("full: " + call, Boards::full, asked, want);
    }

    /** ODD numbers, and those from which on there are none. */
    private static int[] outside(int... firstTooMany) {
        int[] all = new int[ODD.length + firstTooMany.length];
        System.arraycopy(ODD, 0, all, 0, ODD.length);
        System.arraycopy(firstTooMany, 0, all, ODD.length, firstTooMany.length);
        return all;
    }

    private static void looksSeeChanges() {
        due.part("looks");
        Twins.Build some = Boards::some;
        twins.changes("group", some, x -> x.group(0, 3));
        twins.changes("worth", some, x -> x.worth(2, 0));
        twins.changes("point", some, x -> x.point());
        twins.changes("line", some, x -> x.line(1, 1));
        twins.changes("walk", some, x -> x.walk(1));
        twins.changes("step", some, x -> x.step(0, 0, false));
        twins.changes("a step of another way", Boards::full, x -> x.step(4, 9, true));
        twins.changes("counts", some, x -> x.counts(1, false));
        twins.changes("drop", some, x -> x.drop());
        twins.changes("set", some, x -> x.set(2, 0));
        twins.changes("twist", some, x -> x.twist(0, 0));
        twins.changes("still", some, x -> x.still());
        twins.changes("undo", some, x -> x.undo());
        twins.changes("a ninth act", Boards::full, x -> x.set(0, x.at(0)));
        for (int k = 0; k < 4; k++) {
            int sheet = k;
            twins.changes("sheet", some, x -> x.sheet(sheet, 1, 11));
        }
        for (int i = 0; i < 12; i++) {
            int cell = i;
            twins.changes("lay", Boards::full, x -> x.lay(0, 5 * cell + 3, 7));
            twins.changes("lay", Boards::full, x -> x.lay(2, cell, 7));
        }
        twins.changes("fill", Boards::full, x -> x.fill(2, 2, 1));
    }

    private static void group() {
        due.part("2 group");
        int[][] wrong = {{0, 0}, {0, 9}, {0, -1}, {0, MAX}, {0, MIN}, {1, 2}, {1, 5}, {1, -3},
            {1, 6}, {1, 8}, {1, MAX}, {1, MIN}, {2, 7}, {2, 9}, {2, 4}, {2, MAX}, {2, MIN},
            {-1, 1}, {-1, 8}, {3, 1}, {3, 3}, {3, 8}, {MAX, 8}, {MIN, 8}};
        for (int[] each : wrong) {
            everywhere("group(" + each[0] + ", " + each[1] + ")", x -> x.group(each[0], each[1]),
                -1);
        }
    }

    private static void read() {
        due.part("3 read");
        for (int bad : outside(4)) {
            everywhere("read(" + bad + ", 0, 0, 1)", x -> x.read(bad, 0, 0, 1), -1);
        }
        for (int bad : outside(3)) {
            everywhere("read(0, " + bad + ", 0, 1)", x -> x.read(0, bad, 0, 1), -1);
        }
        for (int bad : outside(0, 9)) {
            everywhere("read(0, 0, 0, " + bad + ")", x -> x.read(0, 0, 0, bad), -1);
        }
        everywhere("NULL", x -> x.read(3, 0, 0, 1), -11);
        everywhere("NULL ahead of INDEX", x -> x.read(3, 1, MIN, 8), -11);
        Twins.Build full = Boards::full;
        for (int lane = 0; lane < 3; lane++) {
            int as = lane;
            for (int k = 0; k < 3; k++) {
                int sheet = k;
                if (lane != k) {
                    twins.refused("CAST", full, x -> x.read(sheet, as, 0, 1), -13);
                    twins.refused("CAST ahead of INDEX", full, x -> x.read(sheet, as, MAX, 8), -13);
                }
            }
        }
        twins.refused("INDEX, no CELLS", full, x -> x.read(1, 1, 0, 1), -12);
        for (int f : outside(64, 65, -2, -63, -64, MAX - 3, MAX - 62, MIN + 1, MIN + 63)) {
            for (int n : new int[] {1, 2, 8}) {
                twins.refused("INDEX " + f, full, x -> x.read(0, 0, f, n), -12);
            }
        }
        twins.refused("INDEX behind CELLS that are TURNS", full, x -> x.read(0, 0, 2, 8), -12);
        twins.refused("no TURN ahead of INDEX", full, x -> x.read(0, 0, 63, 2), -100);
        twins.refused("no TURN ahead of INDEX", full, x -> x.read(0, 0, 61, 2), -101);
        twins.refused("INDEX ahead of what follows", full, x -> x.read(0, 0, 61, 6), -12);
    }

    /** The products of 8 TURNS each of which is its own BACK, on SHEET 3, one of them spoilt. */
    private static Twins.Build spoilt(int lane, int cell, int v) {
        return x -> {
            Boards.full(x);
            x.sheet(3, lane, 64);
            for (int i = 0; i < 64; i++) {
                x.lay(3, i, i == cell ? v : (i / 8) ^ (i % 8));
            }
        };
    }

    private static void readCells() {
        due.part("3 read, CELLS");
        for (int i = 0; i < 64; i++) {
            twins.refused("no TURN", spoilt(i % 3, i, 8), read3(i % 3), -100 - i);
            twins.refused("no TURN", spoilt(i % 3, i, -1), read3(i % 3), -100 - i);
        }
        for (int v : new int[] {9, 127, 128, 255, -128}) {
            twins.refused("no TURN", spoilt(0, 63, v), read3(0), -163);
        }
        for (int v : new int[] {9, 255, 256, 32767, 32768, 65535}) {
            twins.refused("no TURN", spoilt(1, 63, v), read3(1), -163);
        }
        for (int v : new int[] {9, 256, 65536, MAX, MIN}) {
            twins.refused("no TURN", spoilt(2, 63, v), read3(2), -163);
        }
    }

    private static Twins.Call read3(int lane) {
        return x -> x.read(3, lane, 0, 8);
    }

    private static void readProofs() {
        due.part("3 read, proofs");
        for (int a = 0; a < 8; a++) {
            int other = a == 3 ? 5 : 3;
            twins.refused("0 a is not a", spoilt(2, a, other), read3(2), -200 - a);
            twins.refused("a 0 is not a", spoilt(2, 8 * a, other), read3(2), -200 - a);
        }
        for (int a = 1; a < 8; a++) {
            twins.refused("no BACK", spoilt(2, 9 * a, a), read3(2), -300 - a);
        }
        // 1 (6 7) is 1 2, that is 3; (1 6) 7 is 7 7, that is 0
        twins.refused("not joined alike", spoilt(2, 55, 2), read3(2), -1000 - 64 - 48 - 7);
        // 1 (2 1) is 1 4, that is 5; (1 2) 1 is 3 1, that is 2; 1 (1 x) is x, as it was
        twins.refused("not joined alike", spoilt(2, 17, 4), read3(2), -1000 - 64 - 16 - 1);
        // (1 1) 2 is 2; 1 (1 2) is 1 4, that is 5; 1 (1 1) is 1 either way
        twins.refused("not joined alike", spoilt(2, 10, 4), read3(2), -1000 - 64 - 8 - 2);
    }

    /** Calls that only tell: with what there is none of, they tell nothing and change nothing. */
    private static void asked() {
        due.part("4, 5, 6, 13, 16, 21, 29");
        for (int bad : outside(8)) {
            everywhere("times(" + bad + ", 0)", x -> x.times(bad, 0), -1);
            everywhere("times(0, " + bad + ")", x -> x.times(0, bad), -1);
            everywhere("turn(" + bad + ", 4)", x -> x.turn(bad, 4), -1);
            everywhere("told(" + bad + ", 0)", x -> x.told(bad, 0), -1);
            everywhere("many(" + bad + ")", x -> x.many(bad), -1);
        }
        for (int bad : outside(6)) {
            everywhere("turn(0, " + bad + ")", x -> x.turn(0, bad), -1);
        }
        for (int bad : outside(5)) {
            everywhere("about(" + bad + ")", x -> x.about(bad), -1);
            everywhere("told(0, " + bad + ")", x -> x.told(0, bad), -1);
        }
        for (int bad : outside(10)) {
            everywhere("at(" + bad + ")", x -> x.at(bad), -1);
            everywhere("tree(" + bad + ")", x -> x.tree(bad), -1);
        }
        twins.refused("many(7), nothing", x -> { }, x -> x.many(7), -4);
    }

    private static void worth() {
        due.part("7 worth");
        for (int bad : outside(8)) {
            everywhere("worth(" + bad + ", 0)", x -> x.worth(bad, 0), -1);
        }
        for (int bad : outside(10)) {
            everywhere("worth(0, " + bad + ")", x -> x.worth(0, bad), -1);
        }
        twins.refused("worth(1, 0)", x -> { }, x -> x.worth(1, 0), -1);
        twins.refused("worth(3, 0)", Boards::some, x -> x.worth(3, 0), -1);
        twins.refused("worth(6, 0)", Boards::full, x -> x.worth(6, 0), -1);
    }

    private static void point() {
        due.part("8 point");
        twins.refused("point()", Boards::full, x -> x.point(), -3);
    }

    private static void line() {
        due.part("9 line");
        for (int bad : outside(6)) {
            everywhere("line(" + bad + ", 0)", x -> x.line(bad, 0), -1);
            everywhere("line(0, " + bad + ")", x -> x.line(0, bad), -1);
        }
        twins.refused("line(0, 0), no POINT", x -> { }, x -> x.line(0, 0), -1);
        twins.refused("line(2, 1)", Boards::some, x -> x.line(2, 1), -1);
        twins.refused("line(1, 2)", Boards::some, x -> x.line(1, 2), -1);
        twins.refused("line(5, 0)", Boards::full, x -> x.line(5, 0), -3);
        twins.refused("line(5, 5)", Boards::full, x -> x.line(5, 5), -3);
        Twins.Build parts = x -> {
            for (int i = 0; i < 6; i++) {
                x.point();
            }
            for (int i = 0; i < 10; i++) {
                x.line(0, 1);
            }
        };
        twins.refused("one that would join two PARTS", parts, x -> x.line(4, 5), -3);
    }

    private static void walk() {
        due.part("10 walk");
        for (int bad : outside(6)) {
            everywhere("walk(" + bad + ")", x -> x.walk(bad), -1);
        }
        twins.refused("walk(0), no POINT", x -> { }, x -> x.walk(0), -1);
        twins.refused("walk(2)", Boards::some, x -> x.walk(2), -1);
        twins.refused("walk(5)", Boards::full, x -> x.walk(5), -3);
    }

    private static void step() {
        due.part("11 step");
        for (int bad : outside(8)) {
            everywhere("step(" + bad + ", 0, false)", x -> x.step(bad, 0, false), -1);
            everywhere("step(" + bad + ", 0, true)", x -> x.step(bad, 0, true), -1);
        }
        for (int bad : outside(10)) {
            everywhere("step(0, " + bad + ", false)", x -> x.step(0, bad, false), -1);
            everywhere("step(0, " + bad + ", true)", x -> x.step(0, bad, true), -1);
        }
        Twins.Build some = Boards::some;
        twins.refused("no such WALK", some, x -> x.step(2, 0, false), -1);
        twins.refused("no such LINE", some, x -> x.step(0, 3, false), -1);
        twins.refused("does not begin there", some, x -> x.step(0, 1, false), -2);
        twins.refused("does not end there", some, x -> x.step(0, 0, true), -2);
        twins.refused("neither", some, x -> x.step(0, 2, true), -2);
        twins.refused("STATE ahead of FULL", Boards::full, x -> x.step(0, 0, true), -2);
        twins.refused("FULL", Boards::full, x -> x.step(0, 0, false), -3);
        twins.refused("FULL, back", Boards::full, x -> x.step(0, 5, true), -3);
        twins.refused("FULL", Boards::full, x -> x.step(7, 9, false), -3);
    }

    private static void counts() {
        due.part("12 counts");
        for (int bad : outside(8)) {
            everywhere("counts(" + bad + ", false)", x -> x.counts(bad, false), -1);
            everywhere("counts(" + bad + ", true)", x -> x.counts(bad, true), -1);
        }
        twins.refused("counts(2, false)", Boards::some, x -> x.counts(2, false), -1);
    }

    private static void drop() {
        due.part("14 drop");
        twins.refused("drop()", x -> { }, x -> x.drop(), -4);
        twins.refused("drop(), all gone", RefusedTest::withoutWalks, x -> x.drop(), -4);
    }

    private static void withoutWalks(TurnBoards x) {
        Boards.full(x);
        for (int i = 0; i < 8; i++) {
            x.drop();
        }
    }

    private static void set() {
        due.part("15 set");
        for (int bad : outside(10)) {
            everywhere("set(" + bad + ", 0)", x -> x.set(bad, 0), -1);
        }
        for (int bad : outside(8)) {
            everywhere("set(0, " + bad + ")", x -> x.set(0, bad), -1);
        }
        twins.refused("set(0, 0), no LINE", x -> { }, x -> x.set(0, 0), -1);
        twins.refused("set(3, 0)", Boards::some, x -> x.set(3, 0), -1);
        twins.refused("set(2, 3)", Boards::some, x -> x.set(2, 3), -1);
        twins.refused("set(9, 6)", Boards::full, x -> x.set(9, 6), -1);
    }

    private static void twist() {
        due.part("18 twist");
        for (int bad : outside(6)) {
            everywhere("twist(" + bad + ", 0)", x -> x.twist(bad, 0), -1);
        }
        for (int bad : outside(8)) {
            everywhere("twist(0, " + bad + ")", x -> x.twist(0, bad), -1);
        }
        twins.refused("twist(0, 0), no POINT", x -> { }, x -> x.twist(0, 0), -1);
        twins.refused("twist(2, 1)", Boards::some, x -> x.twist(2, 1), -1);
        twins.refused("twist(1, 3)", Boards::some, x -> x.twist(1, 3), -1);
        twins.refused("twist(5, 6)", Boards::full, x -> x.twist(5, 6), -1);
    }

    private static void undo() {
        due.part("20 undo");
        twins.refused("undo()", x -> { }, x -> x.undo(), -4);
        twins.refused("undo(), all undone", RefusedTest::allUndone, x -> x.undo(), -4);
        twins.refused("undo(), another group", RefusedTest::otherGroup, x -> x.undo(), -4);
    }

    private static void allUndone(TurnBoards x) {
        Boards.full(x);
        for (int i = 0; i < 8; i++) {
            x.undo();
        }
    }

    private static void otherGroup(TurnBoards x) {
        Boards.full(x);
        x.group(0, 4);
    }

    private static void sums() {
        due.part("23, 24 sums");
        for (int bad : outside(8)) {
            everywhere("sumBy(" + bad + ", 0)", x -> x.sumBy(bad, 0), -1);
            everywhere("sumBy(0, " + bad + ")", x -> x.sumBy(0, bad), -1);
            everywhere("mean(" + bad + ", 0, 0)", x -> x.mean(bad, 0, 0), -1);
            everywhere("mean(0, " + bad + ", 0)", x -> x.mean(0, bad, 0), -1);
        }
        for (int bad : outside(2)) {
            everywhere("mean(0, 0, " + bad + ")", x -> x.mean(0, 0, bad), -1);
        }
        twins.refused("not CLOSED", Boards::full, x -> x.sumBy(3, 0), -1);
        twins.refused("not CLOSED", Boards::full, x -> x.mean(3, 0, 1), -1);
        twins.refused("no STEPS", Boards::full, x -> x.sumBy(5, 0), -1);
        twins.refused("no STEPS", Boards::full, x -> x.mean(5, 0, 1), -1);
        Twins.Build worthless = x -> {
            Boards.full(x);
            x.worth(0, 0);
            x.worth(1, 0);
            x.worth(3, 0);
        };
        twins.refused("SUM is 0", worthless, x -> x.mean(0, 0, 0), -2);
        twins.refused("SUM is 0", worthless, x -> x.mean(0, 0, 1), -2);
    }

    private static void sumsSpent() {
        due.part("22 to 25 SPENT");
        Twins.Build spent = x -> {
            Boards.some(x);
            x.group(2, 8);
            x.worth(1, 0);
            for (int i = 0; i < 4; i++) {
                x.line(0, 1);
                x.set(3 + i, 2 * i);
            }
        };
        twins.refused("sum()", spent, x -> x.sum(), -6);
        twins.refused("flat()", spent, x -> x.flat(), -6);
        twins.refused("sumBy(0, 1)", spent, x -> x.sumBy(0, 1), -6);
        twins.refused("mean(0, 1, 0)", spent, x -> x.mean(0, 1, 0), -6);
        twins.refused("BAD ahead of SPENT", spent, x -> x.sumBy(1, 0), -1);
        twins.refused("BAD ahead of SPENT", spent, x -> x.mean(0, 0, 2), -1);
    }

    private static void sheet() {
        due.part("26 sheet");
        for (int bad : outside(4)) {
            everywhere("sheet(" + bad + ", 0, 1)", x -> x.sheet(bad, 0, 1), -1);
            everywhere("BAD ahead of SIZE", x -> x.sheet(bad, 0, -1), -1);
        }
        for (int bad : outside(3)) {
            everywhere("sheet(0, " + bad + ", 1)", x -> x.sheet(0, bad, 1), -1);
            everywhere("BAD ahead of SIZE", x -> x.sheet(0, bad, -1), -1);
        }
        for (int k = 0; k < 4; k++) {
            int sheet = k;
            for (int bad : new int[] {65, 66, 128, MAX}) {
                everywhere("above 64", x -> x.sheet(sheet, 0, bad), -1);
            }
            for (int bad : new int[] {-1, -64, MIN}) {
                everywhere("SIZE", x -> x.sheet(sheet, 1, bad), -14);
            }
        }
    }

    private static void lay() {
        due.part("27 lay");
        for (int bad : outside(4)) {
            everywhere("lay(" + bad + ", 0, 1)", x -> x.lay(bad, 0, 1), -1);
        }
        for (int i : outside(0, 63, 64)) {
            everywhere("NULL", x -> x.lay(3, i, 1), -11);
        }
        for (int bad : outside(64, 65)) {
            twins.refused("INDEX", Boards::full, x -> x.lay(0, bad, 1), -12);
        }
        for (int bad : outside(0, 1, 63)) {
            twins.refused("INDEX, no CELLS", Boards::full, x -> x.lay(1, bad, 1), -12);
        }
        for (int bad : outside(12, 13, 63)) {
            twins.refused("INDEX", Boards::full, x -> x.lay(2, bad, 1), -12);
        }
    }

    private static void fill() {
        due.part("28 fill");
        for (int bad : outside(4)) {
            everywhere("fill(" + bad + ", 0, 0)", x -> x.fill(bad, 0, 0), -1);
        }
        for (int bad : outside(3)) {
            everywhere("fill(0, " + bad + ", 0)", x -> x.fill(0, bad, 0), -1);
        }
        for (int f : outside(0)) {
            everywhere("NULL", x -> x.fill(3, 0, f), -11);
        }
        Twins.Build full = Boards::full;
        for (int k = 0; k < 3; k++) {
            int sheet = k;
            twins.refused("CAST", full, x -> x.fill(sheet, (sheet + 1) % 3, 0), -13);
            twins.refused("CAST ahead of INDEX", full, x -> x.fill(sheet, (sheet + 2) % 3, MIN),
                -13);
        }
        twins.refused("INDEX, no CELLS", full, x -> x.fill(1, 1, 0), -12);
        for (int f : outside(64, -2, -9, -10, MAX - 1, MAX - 9, MIN + 9)) {
            twins.refused("INDEX " + f, full, x -> x.fill(0, 0, f), -12);
        }
        for (int f = 55; f < 64; f++) {
            int first = f;
            twins.refused("INDEX past the end, from " + f, full, x -> x.fill(0, 0, first), -12);
        }
        twins.refused("INDEX at the last LINE", full, x -> x.fill(2, 2, 3), -12);
    }

    private static void fillCells() {
        due.part("28 fill, CELLS");
        for (int lane = 0; lane < 3; lane++) {
            int as = lane;
            for (int i = 0; i < 10; i++) {
                for (int v : new int[] {6, -1}) {
                    twins.refused("no TURN", oneWrong(as, i, v, 14), x -> x.fill(3, as, 4), -20 - i);
                }
                if (i < 9) {
                    twins.refused("no TURN ahead of INDEX", oneWrong(as, i, 6, 13),
                        x -> x.fill(3, as, 4), -20 - i);
                }
            }
            twins.refused("INDEX, the last CELL", oneWrong(as, 0, 1, 13), x -> x.fill(3, as, 4),
                -12);
        }
    }

    /** SHEET 3 with TURNS other than the LINES', from CELL 4 on, and something at CELL 4 + i. */
    private static Twins.Build oneWrong(int lane, int i, int v, int cells) {
        return x -> {
            Boards.full(x);
            x.sheet(3, lane, cells);
            for (int line = 0; line < 10; line++) {
                x.lay(3, 4 + line, (x.at(line) + 1) % 6);
            }
            x.lay(3, 4 + i, v);
        };
    }
}
