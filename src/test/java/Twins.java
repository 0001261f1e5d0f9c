import java.util.ArrayList;
import java.util.List;

/**
 * Holds an object that was asked against a twin that was not. Each look is at two new objects, so
 * that it may change what it looks at, and stays within the calls that an object is used for.
 */
final class Twins {
    private static final int LOOKS = 8;
    /** From here on ten CELLS each: all of a SHEET of 10 to 12 CELLS, and all of one of 64. */
    private static final int[] TENS = {0, 1, 2, 9, 18, 27, 36, 45, 54};

    interface Build {
        void on(TurnBoards x);
    }

    interface Call {
        long on(TurnBoards x);
    }

    private final Due due;
    private List<String> seen = new ArrayList<>();

    Twins(Due due) {
        this.due = due;
    }

    /** The call answers what is due, and nothing has changed behind it. */
    void refused(String call, Build board, Call asked, long want) {
        for (int look = 0; look < LOOKS; look++) {
            TurnBoards x = built(board);
            due.is(call, asked.on(x), want);
            String unlike = firstUnlike(seenBy(look, x), seenBy(look, built(board)));
            due.holds(call + " changed nothing, but " + unlike, unlike == null);
        }
    }

    /** The call changes something that a look sees: else refused() would tell nothing. */
    void changes(String call, Build board, Call asked) {
        boolean found = false;
        for (int look = 0; look < LOOKS; look++) {
            TurnBoards x = built(board);
            asked.on(x);
            found |= firstUnlike(seenBy(look, x), seenBy(look, built(board))) != null;
        }
        due.holds(call + " is seen", found);
    }

    private static TurnBoards built(Build board) {
        TurnBoards x = new TurnBoards();
        board.on(x);
        return x;
    }

    private static String firstUnlike(List<String> one, List<String> other) {
        for (int i = 0; i < Math.max(one.size(), other.size()); i++) {
            if (i >= one.size() || i >= other.size()) {
                return "one is longer";
            }
            if (!one.get(i).equals(other.get(i))) {
                return one.get(i) + ", not " + other.get(i);
            }
        }
        return null;
    }

    private void saw(String call, long answer) {
        seen.add(call + " " + answer);
    }

    private List<String> seenBy(int look, TurnBoards x) {
        seen = new ArrayList<>();
        switch (look) {
            case 0: group(x); break;
            case 1: board(x); break;
            case 2: walks(x); break;
            case 3: acts(x); break;
            default: sheet(x, look - 4); break;
        }
        return seen;
    }

    private void group(TurnBoards x) {
        for (int what = 0; what < 5; what++) {
            saw("about(" + what + ")", x.about(what));
        }
        for (int a = 0; a < x.about(0); a++) {
            for (int b = 0; b < x.about(0); b++) {
                saw("times(" + a + ", " + b + ")", x.times(a, b));
            }
            for (int what = 0; what < 6; what++) {
                saw("turn(" + a + ", " + what + ")", x.turn(a, what));
            }
        }
    }

    /** What there is, and what can still be made. */
    private void board(TurnBoards x) {
        counted(x);
        lines(x);
        for (int i = 0; i < 7; i++) {
            saw("point()", x.point());
        }
        for (int i = 0; i < 11; i++) {
            saw("line", x.line(i % 6, i * i % 6));
        }
        for (int i = 0; i < x.many(1); i++) {
            saw("tree(" + i + ")", x.tree(i));
        }
        for (int i = 0; i < 9; i++) {
            saw("walk", x.walk(i % 6));
        }
        counted(x);
        lines(x);
        told(x);
    }

    private void counted(TurnBoards x) {
        for (int what = 0; what < 8; what++) {
            saw("many(" + what + ")", x.many(what));
        }
        saw("weight()", x.weight());
        saw("sum()", x.sum());
        saw("flat()", x.flat());
    }

    private void lines(TurnBoards x) {
        for (int i = 0; i < x.many(1); i++) {
            saw("at(" + i + ")", x.at(i));
        }
    }

    private void told(TurnBoards x) {
        for (int w = 0; w < x.many(2); w++) {
            for (int what = 0; what < 5; what++) {
                saw("told(" + w + ", " + what + ")", x.told(w, what));
            }
        }
    }

    /** Which LINES a WALK goes along shows as these get other TURNS one by one. */
    private void walks(TurnBoards x) {
        told(x);
        for (int i = 0; i < x.many(1); i++) {
            x.set(i, x.about(0) - 1 - i % x.about(0));
            for (int w = 0; w < x.many(2); w++) {
                saw("told(" + w + ", 3)", x.told(w, 3));
            }
        }
        for (int w = x.many(2) - 1; w >= 0; w--) {
            saw("sumBy(" + w + ", 0)", x.sumBy(w, 0));
            saw("mean(" + w + ", 0, 1)", x.mean(w, 0, 1));
            saw("drop()", x.drop());
        }
    }

    private void acts(TurnBoards x) {
        lines(x);
        for (int i = 0; i < 9; i++) {
            saw("undo()", x.undo());
            lines(x);
        }
    }

    /** CELLS of a SHEET, taken ten at once as of each lane, and how many there are. */
    private void sheet(TurnBoards x, int k) {
        x.group(0, 8);
        x.point();
        while (x.line(0, 0) >= 0) {
            saw("lines", x.many(1));
        }
        for (int lane = 0; lane < 3; lane++) {
            saw("read as " + lane, x.read(k, lane, 0, 1));
            x.group(0, 8);
            for (int f : TENS) {
                int filled = x.fill(k, lane, f);
                saw("fill(" + k + ", " + lane + ", " + f + ")", filled);
                if (filled > 0) {
                    lines(x);
                }
            }
        }
        for (int i = -1; i < 65; i++) {
            saw("lay(" + k + ", " + i + ", 1)", x.lay(k, i, 1));
        }
    }
}
