/** Boards and sheets that several tests use, and rows of what an object answers. */
final class Boards {
    private Boards() {
    }

    static TurnBoards withPoints(int points) {
        TurnBoards x = new TurnBoards();
        for (int p = 0; p < points; p++) {
            x.point();
        }
        return x;
    }

    /** 0 to 1, 1 to 2, 2 to 0, and a WALK along them. */
    static TurnBoards triangle(int kind, int n) {
        TurnBoards x = withPoints(3);
        x.group(kind, n);
        x.line(0, 1);
        x.line(1, 2);
        x.line(2, 0);
        walkAlong(x, 0, 0, 1, 2);
        return x;
    }

    /** One POINT, LINES from it to itself, a WALK along each of the first ones. */
    static TurnBoards loops(int kind, int n, int lines, int walks) {
        TurnBoards x = withPoints(1);
        x.group(kind, n);
        for (int i = 0; i < lines; i++) {
            x.line(0, 0);
        }
        for (int w = 0; w < walks; w++) {
            x.walk(0);
            x.step(w, w, false);
        }
        return x;
    }

    /** All POINTS in a row, joined from the last to the first, and all LINES. */
    static TurnBoards fullBoard(int kind, int n) {
        TurnBoards x = withPoints(6);
        x.group(kind, n);
        for (int p = 5; p > 0; p--) {
            x.line(p, p - 1);
        }
        for (int i = 0; i < 5; i++) {
            x.line(i, i);
        }
        return x;
    }

    /** Something of everything, and room for more of everything. */
    static void some(TurnBoards x) {
        x.point();
        x.point();
        x.group(0, 3);
        x.worth(1, 2);
        x.line(0, 1);
        x.line(1, 0);
        x.line(1, 1);
        walkAlong(x, 0, 0, 1);
        walkAlong(x, 0, 0);
        x.set(0, 1);
        x.twist(1, 2);
        x.sheet(0, 0, 11);
        layAll(x, 0, 0, 2, 1);
        x.lay(0, 10, 1);
        x.sheet(1, 1, 12);
        layAll(x, 1, 9, 1, 2, 1);
        x.sheet(2, 2, 0);
    }

    /** As much as there may be: 6 POINTS, 10 LINES, 8 WALKS, 6 STEPS, 8 ACTS, 64 CELLS. */
    static void full(TurnBoards x) {
        for (int p = 0; p < 6; p++) {
            x.point();
        }
        x.group(1, 3);
        int[][] ends = {{0, 1}, {1, 2}, {2, 3}, {3, 4}, {4, 5}, {5, 0}, {2, 0}, {3, 3}, {1, 4},
            {0, 0}};
        for (int[] each : ends) {
            x.line(each[0], each[1]);
        }
        walkAlong(x, 0, 0, 1, 2, 3, 4, 5);
        walkAlong(x, 0, 0, 1, 6);
        walkAlong(x, 3, 7);
        walkAlong(x, 0, 0);
        walkAlong(x, 0, 9, 9);
        x.walk(5);
        walkAlong(x, 1, 8, -4, -3, -2);
        walkAlong(x, 0, 9, 9, 9, 9, 9, 9);
        x.counts(4, false);
        x.worth(0, 2);
        x.worth(1, 9);
        x.worth(3, 5);
        for (int i = 0; i < 10; i++) {
            x.set(i, (3 * i + 1) % 6);
        }
        x.twist(2, 4);
        x.sheet(0, 0, 64);
        layAll(x, 0, 0, 1, 2);
        layAll(x, 0, 62, 5, 3);
        x.sheet(1, 1, 0);
        x.sheet(2, 2, 12);
        layAll(x, 2, 0, 1, 2, 3, 4, 5, 0, 1, 2, 3, 4, 5, 4);
    }

    /** A new WALK along LINES; one that is told as -1 - line is gone back. */
    static int walkAlong(TurnBoards x, int from, int... lines) {
        int w = x.walk(from);
        for (int line : lines) {
            x.step(w, line < 0 ? -1 - line : line, line < 0);
        }
        return w;
    }

    static void layAll(TurnBoards x, int k, int from, int... cells) {
        for (int i = 0; i < cells.length; i++) {
            x.lay(k, from + i, cells[i]);
        }
    }

    static int[] lineTurns(TurnBoards x) {
        int[] turns = new int[x.many(1)];
        for (int i = 0; i < turns.length; i++) {
            turns[i] = x.at(i);
        }
        return turns;
    }

    static int[] ofTurns(TurnBoards x, int what) {
        int[] found = new int[x.about(0)];
        for (int a = 0; a < found.length; a++) {
            found[a] = x.turn(a, what);
        }
        return found;
    }

    static int[] ofGroup(TurnBoards x) {
        int[] found = new int[5];
        for (int what = 0; what < 5; what++) {
            found[what] = x.about(what);
        }
        return found;
    }

    static int[] ofMany(TurnBoards x) {
        int[] found = new int[8];
        for (int what = 0; what < 8; what++) {
            found[what] = x.many(what);
        }
        return found;
    }
}
