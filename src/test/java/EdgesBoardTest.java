/** Edges that the document names for THE BOARD: promises 8 to 21, and the terms that they use. */
public final class EdgesBoardTest {
    private static final int MAX = Integer.MAX_VALUE, MIN = Integer.MIN_VALUE;
    private static final Due due = new Due();

    public static void main(String[] args) {
        sixPoints();
        tenLines();
        linesToTheLastPoint();
        eightWalks();
        sixSteps();
        stepBeginsWhereItIs();
        stepOfALoop();
        countsAtFirst();
        toldOfNoSteps();
        toldWhileGoing();
        dropUntilNone();
        dropGivesRoom();
        setUpToTheLast();
        setIsAnActAlways();
        weightOfNone();
        weightLeastAndGreatest();
        twistOfNothing();
        twistOfALoop();
        twistLeavesWhatCounts();
        stillOfNothing();
        stillOfParts();
        stillOfEveryChain();
        stillFromTheFarEnd();
        stillPastOtherLines();
        undoUntilNone();
        undoLatestEight();
        undoAndActAgain();
        undoWhatIsNoAct();
        undoBehindNewLines();
        treeOfTwins();
        treeInOrder();
        usedForAllItsCalls();
        due.end();
    }

    private static void sixPoints() {
        due.part("POINTS (6)");
        TurnBoards x = new TurnBoards();
        for (int p = 0; p < 6; p++) {
            due.is("walk from none", x.walk(p), -1);
            due.is("point()", x.point(), p);
            due.is("many(0)", x.many(0), p + 1);
            due.is("many(4)", x.many(4), p + 1);
            due.is("twist(p, 0)", x.twist(p, 0), 0);
        }
        due.is("a seventh", x.point(), -3);
        due.is("once more", x.point(), -3);
        due.is("many(0)", x.many(0), 6);
        due.is("walk(5)", x.walk(5), 0);
        due.is("walk(6)", x.walk(6), -1);
    }

    private static void tenLines() {
        due.part("LINES (10)");
        TurnBoards x = Boards.withPoints(6);
        for (int i = 0; i < 10; i++) {
            due.is("none yet", x.at(i), -1);
            due.is("line", x.line(i % 6, i * 5 % 6), i);
            due.is("TURN 0 at first", x.at(i), 0);
            due.is("many(1)", x.many(1), i + 1);
        }
        due.is("an eleventh", x.line(0, 5), -3);
        due.is("to itself", x.line(0, 0), -3);
        due.is("BAD ahead of FULL", x.line(6, 0), -1);
        due.is("BAD ahead of FULL", x.line(0, -1), -1);
        due.is("many(1)", x.many(1), 10);
        due.is("at(10)", x.at(10), -1);
    }

    private static void linesToTheLastPoint() {
        due.part("LINES from a POINT to a POINT (also itself)");
        for (int points = 1; points <= 6; points++) {
            TurnBoards x = Boards.withPoints(points);
            for (int bad : new int[] {-1, points, points + 1, 6, MAX, MIN}) {
                due.is("line(" + bad + ", 0)", x.line(bad, 0), -1);
                due.is("line(0, " + bad + ")", x.line(0, bad), -1);
                due.is("walk(" + bad + ")", x.walk(bad), -1);
                due.is("twist(" + bad + ", 0)", x.twist(bad, 0), -1);
            }
            due.is("the last to itself", x.line(points - 1, points - 1), 0);
            due.is("the last to the first", x.line(points - 1, 0), 1);
            due.is("the first to the last", x.line(0, points - 1), 2);
            due.is("from the last", x.walk(points - 1), 0);
        }
    }

    private static void eightWalks() {
        due.part("WALKS (8)");
        TurnBoards x = Boards.withPoints(6);
        for (int w = 0; w < 8; w++) {
            due.is("none yet", x.told(w, 0), -1);
            due.is("walk", x.walk(w % 6), w);
            due.is("no STEPS", x.told(w, 0), 0);
            due.is("where it begins", x.told(w, 1), w % 6);
            due.is("many(2)", x.many(2), w + 1);
        }
        due.is("a ninth", x.walk(0), -3);
        due.is("BAD ahead of FULL", x.walk(6), -1);
        due.is("BAD ahead of FULL", x.walk(-1), -1);
        due.is("many(2)", x.many(2), 8);
        due.is("told(8, 0)", x.told(8, 0), -1);
    }

    private static void sixSteps() {
        due.part("1 to 6 STEPS");
        TurnBoards x = Boards.withPoints(2);
        x.line(0, 1);
        x.line(1, 0);
        x.walk(0);
        for (int s = 1; s <= 6; s++) {
            due.is("step", x.step(0, (s - 1) % 2, false), s);
            due.is("told(0, 0)", x.told(0, 0), s);
            due.is("told(0, 1)", x.told(0, 1), s % 2);
            due.is("told(0, 2)", x.told(0, 2), 1 - s % 2);
        }
        due.is("a seventh", x.step(0, 0, false), -3);
        due.is("a seventh, back", x.step(0, 1, true), -3);
        due.is("STATE ahead of FULL", x.step(0, 1, false), -2);
        due.is("STATE ahead of FULL, back", x.step(0, 0, true), -2);
        due.is("BAD ahead of STATE and FULL", x.step(0, 2, false), -1);
        due.is("told(0, 0)", x.told(0, 0), 6);
        due.is("told(0, 1)", x.told(0, 1), 0);
        x.walk(0);
        due.is("another WALK has room", x.step(1, 0, false), 1);
    }

    private static void stepBeginsWhereItIs() {
        due.part("STATE: the LINE does not begin (back: end) where it is");
        TurnBoards x = Boards.withPoints(4);
        x.line(1, 2);
        x.line(2, 3);
        x.walk(2);
        due.is("ends there", x.step(0, 0, false), -2);
        due.is("begins there, back", x.step(0, 1, true), -2);
        due.is("the WALK stays", x.told(0, 1), 2);
        due.is("back", x.step(0, 0, true), 1);
        due.is("where it began", x.told(0, 1), 1);
        due.is("behind it", x.step(0, 1, false), -2);
        due.is("along", x.step(0, 0, false), 2);
        due.is("along", x.step(0, 1, false), 3);
        due.is("where it ends", x.told(0, 1), 3);
        x.walk(0);
        for (int line = 0; line < 2; line++) {
            due.is("a POINT without LINES", x.step(1, line, false), -2);
            due.is("a POINT without LINES, back", x.step(1, line, true), -2);
        }
    }

    private static void stepOfALoop() {
        due.part("a LINE from a POINT to itself, along and back");
        TurnBoards x = Boards.loops(1, 3, 1, 0);
        x.set(0, 1);
        x.walk(0);
        due.is("along", x.step(0, 0, false), 1);
        due.is("CLOSED", x.told(0, 2), 1);
        due.is("TURN", x.told(0, 3), 1);
        due.is("along", x.step(0, 0, false), 2);
        due.is("TURN", x.told(0, 3), 2);
        due.is("back", x.step(0, 0, true), 3);
        due.is("TURN", x.told(0, 3), 1);
        due.is("back", x.step(0, 0, true), 4);
        due.is("back", x.step(0, 0, true), 5);
        due.is("TURN", x.told(0, 3), 2);
        due.is("CLOSED", x.told(0, 2), 1);
    }

    private static void countsAtFirst() {
        due.part("WALKS COUNT at first");
        TurnBoards x = Boards.withPoints(1);
        for (int w = 0; w < 8; w++) {
            x.walk(0);
            due.is("told(w, 4)", x.told(w, 4), 1);
        }
        due.is("counts(7, false)", x.counts(7, false), 1);
        due.is("counts(7, false)", x.counts(7, false), 0);
        due.is("told(7, 4)", x.told(7, 4), 0);
        due.is("told(6, 4)", x.told(6, 4), 1);
        due.is("counts(7, true)", x.counts(7, true), 0);
        due.is("counts(0, true)", x.counts(0, true), 1);
        due.is("counts(8, true)", x.counts(8, true), -1);
        due.is("no ACT", x.many(6), 0);
    }

    private static void toldOfNoSteps() {
        due.part("no STEPS: not CLOSED");
        TurnBoards x = Boards.loops(0, 3, 1, 0);
        x.worth(0, 7);
        x.walk(0);
        int[] want = {0, 0, 0, 0, 1};
        for (int what = 0; what < 5; what++) {
            due.is("told(0, " + what + ")", x.told(0, what), want[what]);
        }
        due.is("many(3)", x.many(3), 0);
        due.is("weight()", x.weight(), 1);
        due.is("sumBy(0, 0)", x.sumBy(0, 0), -1);
        due.is("mean(0, 0, 0)", x.mean(0, 0, 0), -1);
        x.step(0, 0, false);
        due.is("one STEP: CLOSED", x.told(0, 2), 1);
        due.is("many(3)", x.many(3), 1);
        due.is("weight()", x.weight(), 7);
        for (int bad : new int[] {-1, 5, 6, MAX, MIN}) {
            due.is("told(0, " + bad + ")", x.told(0, bad), -1);
        }
    }

    private static void toldWhileGoing() {
        due.part("CLOSED, if it ends where it began");
        TurnBoards x = Boards.triangle(0, 5);
        x.worth(0, 3);
        due.is("CLOSED", x.told(0, 2), 1);
        due.is("weight()", x.weight(), 3);
        x.step(0, 0, false);
        due.is("went on", x.told(0, 2), 0);
        due.is("weight()", x.weight(), 1);
        due.is("many(3)", x.many(3), 0);
        due.is("sumBy(0, 0)", x.sumBy(0, 0), -1);
        x.step(0, 0, true);
        due.is("CLOSED again", x.told(0, 2), 1);
        due.is("many(3)", x.many(3), 1);
        TurnBoards inside = Boards.triangle(0, 5);
        int w = Boards.walkAlong(inside, 0, 0, 1, -2);
        due.is("a POINT twice, but not the first", inside.told(w, 2), 0);
        inside.counts(0, false);
        due.is("CLOSED, though it does not COUNT", inside.told(0, 2), 1);
        due.is("but not one that COUNTS", inside.many(3), 0);
        due.is("where it is", inside.told(w, 1), 1);
    }

    private static void dropUntilNone() {
        due.part("the latest WALK goes; NONE");
        TurnBoards x = new TurnBoards();
        Boards.full(x);
        for (int w = 7; w >= 0; w--) {
            due.is("drop()", x.drop(), w);
            due.is("many(2)", x.many(2), w);
            due.is("it is gone", x.told(w, 0), -1);
            due.is("counts", x.counts(w, true), -1);
            due.is("step", x.step(w, 9, false), -1);
            due.is("sumBy", x.sumBy(w, 0), -1);
        }
        due.is("drop()", x.drop(), -4);
        due.is("drop()", x.drop(), -4);
        due.is("many(2)", x.many(2), 0);
        due.is("weight()", x.weight(), 1);
        due.is("flat(): all WAYS", x.flat(), 60466176);
    }

    private static void dropGivesRoom() {
        due.part("a WALK in place of one that went");
        TurnBoards x = new TurnBoards();
        Boards.full(x);
        x.counts(7, false);
        x.drop();
        due.is("walk(4)", x.walk(4), 7);
        int[] want = {0, 4, 0, 0, 1};
        for (int what = 0; what < 5; what++) {
            due.is("told(7, " + what + ")", x.told(7, what), want[what]);
        }
        due.is("full again", x.walk(4), -3);
        for (int s = 1; s <= 6; s++) {
            due.is("six STEPS once more", x.step(7, 3, s % 2 == 1), s);
        }
        due.is("a seventh", x.step(7, 3, true), -3);
    }

    private static void setUpToTheLast() {
        due.part("15, 16: LINES and TURNS up to the last");
        TurnBoards x = Boards.fullBoard(2, 8);
        due.is("set(9, 7)", x.set(9, 7), 0);
        due.is("set(0, 7)", x.set(0, 7), 0);
        due.is("set(9, 0)", x.set(9, 0), 7);
        due.row("lines", Boards.lineTurns(x), 7, 0, 0, 0, 0, 0, 0, 0, 0, 0);
        for (int bad : new int[] {-1, 8, MAX, MIN}) {
            due.is("set(9, " + bad + ")", x.set(9, bad), -1);
        }
        for (int bad : new int[] {-1, 10, MAX, MIN}) {
            due.is("set(" + bad + ", 7)", x.set(bad, 7), -1);
            due.is("at(" + bad + ")", x.at(bad), -1);
        }
        due.is("many(6)", x.many(6), 3);
    }

    private static void setIsAnActAlways() {
        due.part("each, whether something became another one or not");
        TurnBoards x = Boards.triangle(0, 4);
        due.is("set(0, 0)", x.set(0, 0), 0);
        due.is("an ACT", x.many(6), 1);
        due.is("twist(0, 0)", x.twist(0, 0), 0);
        due.is("an ACT", x.many(6), 2);
        due.is("still()", x.still(), 0);
        due.is("an ACT", x.many(6), 3);
        x.sheet(0, 0, 3);
        due.is("fill", x.fill(0, 0, 0), 0);
        due.is("none, for no LINE changed", x.many(6), 3);
        due.is("undo()", x.undo(), 2);
        due.is("undo()", x.undo(), 1);
        due.is("undo()", x.undo(), 0);
        due.is("undo()", x.undo(), -4);
    }

    private static void weightOfNone() {
        due.part("WEIGHT of no CLOSED WALKS that COUNT");
        TurnBoards x = new TurnBoards();
        due.is("new", x.weight(), 1);
        x.worth(0, 9);
        due.is("no WALKS", x.weight(), 1);
        TurnBoards none = Boards.loops(0, 2, 1, 1);
        none.worth(0, 0);
        due.is("one that COUNTS", none.weight(), 0);
        none.counts(0, false);
        due.is("none that COUNTS", none.weight(), 1);
    }

    private static void weightLeastAndGreatest() {
        due.part("WEIGHT: the product of the WORTHS");
        TurnBoards x = Boards.loops(2, 8, 8, 8);
        x.worth(0, 9);
        due.is("9 eight times", x.weight(), 43046721);
        x.set(7, 4);
        due.is("the last one 1", x.weight(), 4782969);
        x.worth(4, 0);
        due.is("the last one 0", x.weight(), 0);
        x.counts(7, false);
        due.is("without it", x.weight(), 4782969);
    }

    private static void twistOfNothing() {
        due.part("a POINT without LINES is TURNED");
        TurnBoards x = Boards.triangle(1, 3);
        x.point();
        due.is("twist(3, 5)", x.twist(3, 5), 0);
        due.is("an ACT", x.many(6), 1);
        due.row("lines", Boards.lineTurns(x), 0, 0, 0);
        due.is("undo()", x.undo(), 0);
    }

    private static void twistOfALoop() {
        due.part("LINES from p g x, then to p x (BACK of g), one from p to p both");
        TurnBoards x = Boards.withPoints(2);
        x.group(1, 4);
        x.line(0, 0);
        x.line(0, 1);
        x.line(1, 0);
        x.line(1, 1);
        x.set(0, 4);
        x.set(1, 4);
        x.set(2, 4);
        x.set(3, 4);
        // 1 4 is 5, 4 3 is 5, 1 4 3 is 6
        due.is("twist(0, 1)", x.twist(0, 1), 3);
        due.row("lines", Boards.lineTurns(x), 6, 5, 5, 4);
        // 2 goes with 6 alike: 2 6 is 4, 4 2 is 6
        due.is("twist(0, 2)", x.twist(0, 2), 2);
        due.row("lines", Boards.lineTurns(x), 6, 7, 7, 4);
        TurnBoards ring = Boards.loops(0, 8, 10, 0);
        ring.set(9, 3);
        due.is("in a RING loops stay", ring.twist(0, 7), 0);
        due.is("at(9)", ring.at(9), 3);
    }

    private static void twistLeavesWhatCounts() {
        due.part("POINTS TURNED: CLOSED WALKS keep their CLASS");
        for (int p = 0; p < 6; p++) {
            for (int a = 0; a < 6; a++) {
                TurnBoards x = new TurnBoards();
                Boards.full(x);
                long weight = x.weight();
                int[] classes = new int[8];
                for (int w = 0; w < 8; w++) {
                    classes[w] = x.turn(x.told(w, 3), 2);
                }
                x.twist(p, a);
                due.is("weight()", x.weight(), weight);
                for (int w = 0; w < 8; w++) {
                    if (x.told(w, 2) == 1) {
                        due.is("class of walk " + w, x.turn(x.told(w, 3), 2), classes[w]);
                    }
                }
                due.is("twisted back", x.twist(p, x.turn(a, 0)) >= 0 ? x.weight() : -1, weight);
            }
        }
    }

    private static void stillOfNothing() {
        due.part("still() with no POINTS, no LINES, no TREE");
        TurnBoards x = new TurnBoards();
        due.is("no POINTS", x.still(), 0);
        due.is("an ACT", x.many(6), 1);
        x.point();
        due.is("no LINES", x.still(), 0);
        due.is("an ACT", x.many(6), 2);
        TurnBoards loops = Boards.loops(1, 3, 10, 0);
        loops.set(0, 3);
        loops.set(9, 5);
        due.is("no TREE", loops.still(), 0);
        due.row("lines", Boards.lineTurns(loops), 3, 0, 0, 0, 0, 0, 0, 0, 0, 5);
    }

    private static void stillOfParts() {
        due.part("the least POINT of each PART stays as it is");
        TurnBoards x = Boards.withPoints(6);
        x.group(1, 3);
        int[][] ends = {{1, 4}, {1, 1}, {4, 4}, {5, 3}, {3, 3}, {5, 5}, {0, 0}, {2, 2}};
        for (int i = 0; i < ends.length; i++) {
            x.line(ends[i][0], ends[i][1]);
            x.set(i, 3 + i % 3);
        }
        // 4 is TURNED by 3: 3 5 is 1, 1 3 is 4; 5 by 3: 3 5 3 is 4 too
        due.is("still()", x.still(), 4);
        due.row("lines", Boards.lineTurns(x), 0, 4, 4, 0, 4, 4, 3, 4);
        due.is("many(4)", x.many(4), 4);
    }

    private static void stillOfEveryChain() {
        due.part("all LINES of THE TREE have 0 then");
        for (int ways = 0; ways < 32; ways++) {
            TurnBoards x = Boards.withPoints(6);
            x.group(2, 8);
            for (int p = 0; p < 5; p++) {
                boolean back = (ways >> p & 1) == 1;
                x.line(back ? p + 1 : p, back ? p : p + 1);
                x.set(p, 7 - p);
            }
            x.line(5, 0);
            x.set(5, 1);
            Boards.walkAlong(x, 0, onward(ways, 0), onward(ways, 1), onward(ways, 2),
                onward(ways, 3), onward(ways, 4), 5);
            int around = x.told(0, 3);
            x.still();
            for (int i = 0; i < 5; i++) {
                due.is("line " + i, x.at(i), 0);
            }
            due.is("0 stays, so the WALK from it has its TURN", x.told(0, 3), around);
            due.is("at the one LINE that is left", x.at(5), around);
        }
    }

    private static int onward(int ways, int p) {
        return (ways >> p & 1) == 1 ? -1 - p : p;
    }

    /** THE TREE's LINES come from its far end on, so that each needs the one behind it. */
    private static void stillFromTheFarEnd() {
        due.part("still() from the far end");
        for (int way = 0; way < 2; way++) {
            TurnBoards x = Boards.withPoints(6);
            x.group(1, 4);
            for (int p = 5; p > 0; p--) {
                x.line(way == 0 ? p : p - 1, way == 0 ? p - 1 : p);
                x.set(5 - p, 1 + p);
            }
            x.line(0, 0);
            x.set(5, 5);
            // what an ACT ahead did to the least POINT is no matter
            x.twist(0, 1);
            due.is("the loop", x.at(5), 7);
            due.is("still()", x.still(), 5);
            due.row("lines", Boards.lineTurns(x), 0, 0, 0, 0, 0, 7);
        }
    }

    private static void stillPastOtherLines() {
        due.part("still() by THE TREE alone");
        TurnBoards x = Boards.withPoints(4);
        x.group(0, 8);
        int[][] ends = {{2, 3}, {1, 2}, {1, 3}, {3, 1}, {0, 1}, {0, 3}, {3, 0}};
        for (int i = 0; i < ends.length; i++) {
            x.line(ends[i][0], ends[i][1]);
            x.set(i, Math.max(2, i + 1));
        }
        // 1 is TURNED by 5, 2 by 5 + 2, 3 by 5 + 2 + 2, that is 1
        due.is("still()", x.still(), 7);
        due.row("lines", Boards.lineTurns(x), 0, 0, 7, 0, 0, 5, 0);
    }

    private static void undoUntilNone() {
        due.part("how many more can be; NONE");
        TurnBoards x = Boards.triangle(0, 3);
        due.is("undo()", x.undo(), -4);
        x.set(1, 2);
        due.is("undo()", x.undo(), 0);
        due.is("at(1)", x.at(1), 0);
        due.is("undo()", x.undo(), -4);
        due.is("many(6)", x.many(6), 0);
    }

    private static void undoLatestEight() {
        due.part("ACTS that can be undone (the latest 8)");
        for (int acts = 0; acts <= 26; acts++) {
            TurnBoards x = Boards.loops(0, 8, 10, 0);
            for (int i = 0; i < acts; i++) {
                x.set(i % 10, 1 + i % 7);
            }
            int kept = Math.min(acts, 8);
            due.is("many(6)", x.many(6), kept);
            for (int left = kept - 1; left >= 0; left--) {
                due.is("undo()", x.undo(), left);
                int undone = acts - kept + left;
                due.is("its LINE", x.at(undone % 10), undone < 10 ? 0 : 1 + (undone - 10) % 7);
            }
            due.is("undo()", x.undo(), -4);
            for (int i = Math.max(0, acts - kept - 10); i < acts - kept; i++) {
                due.is("what is older stays", x.at(i % 10), 1 + i % 7);
            }
        }
    }

    private static void undoAndActAgain() {
        due.part("an ACT behind one that was undone");
        TurnBoards x = Boards.loops(0, 8, 1, 0);
        for (int i = 1; i <= 8; i++) {
            x.set(0, i % 8);
        }
        x.undo();
        x.undo();
        due.is("at(0)", x.at(0), 6);
        x.set(0, 3);
        due.is("many(6)", x.many(6), 7);
        x.set(0, 2);
        x.set(0, 5);
        due.is("many(6)", x.many(6), 8);
        int[] want = {2, 3, 6, 5, 4, 3, 2, 1};
        for (int i = 0; i < want.length; i++) {
            due.is("undo()", x.undo(), 7 - i);
            due.is("at(0)", x.at(0), want[i]);
        }
        due.is("undo()", x.undo(), -4);
        due.is("at(0)", x.at(0), 1);
    }

    private static void undoWhatIsNoAct() {
        due.part("set(), twist(), still(), LINES by fill(): no other ACTS");
        TurnBoards x = Boards.triangle(0, 4);
        x.set(0, 1);
        x.worth(1, 5);
        x.counts(0, false);
        x.walk(0);
        x.step(1, 0, false);
        x.drop();
        x.point();
        x.line(3, 3);
        x.sheet(0, 0, 4);
        x.lay(0, 0, 1);
        x.fill(0, 0, -1);
        x.sum();
        x.flat();
        x.mean(0, 0, 0);
        due.is("many(6)", x.many(6), 1);
        due.is("undo()", x.undo(), 0);
        due.row("many", Boards.ofMany(x), 4, 4, 1, 0, 2, 2, 0, 4);
        due.is("worth", x.turn(1, 4), 5);
        due.is("counts", x.told(0, 4), 0);
        due.row("lines", Boards.lineTurns(x), 0, 0, 0, 0);
    }

    private static void undoBehindNewLines() {
        due.part("an ACT undone behind LINES that came later");
        TurnBoards x = Boards.withPoints(2);
        x.group(0, 5);
        x.line(0, 1);
        x.set(0, 2);
        x.twist(0, 1);
        x.line(1, 0);
        x.set(1, 4);
        x.line(0, 1);
        x.twist(1, 1);
        due.row("lines", Boards.lineTurns(x), 2, 0, 4);
        due.is("undo()", x.undo(), 3);
        due.row("lines", Boards.lineTurns(x), 3, 4, 0);
        due.is("undo()", x.undo(), 2);
        due.row("lines", Boards.lineTurns(x), 3, 0, 0);
        due.is("undo()", x.undo(), 1);
        due.row("lines", Boards.lineTurns(x), 2, 0, 0);
        due.is("undo()", x.undo(), 0);
        due.row("lines", Boards.lineTurns(x), 0, 0, 0);
    }

    private static void treeOfTwins() {
        due.part("POINTS that did not hang together by LINES ahead");
        TurnBoards x = Boards.withPoints(2);
        x.line(1, 1);
        due.is("to itself", x.tree(0), 0);
        x.line(1, 0);
        due.is("the first that joins", x.tree(1), 1);
        x.line(1, 0);
        due.is("the same once more", x.tree(2), 0);
        x.line(0, 1);
        due.is("the other way", x.tree(3), 0);
        due.is("many(5)", x.many(5), 1);
        due.is("many(4)", x.many(4), 1);
        for (int bad : new int[] {-1, 4, 10, MAX, MIN}) {
            due.is("tree(" + bad + ")", x.tree(bad), -1);
        }
    }

    private static void treeInOrder() {
        due.part("THE TREE: LINES in order; PARTS");
        TurnBoards x = Boards.withPoints(6);
        int[][] ends = {{5, 4}, {3, 2}, {1, 0}, {4, 5}, {2, 5}, {4, 3}, {0, 3}, {1, 5}, {0, 0},
            {2, 4}};
        int[] tree = {1, 1, 1, 0, 1, 0, 1, 0, 0, 0};
        int[] parts = {5, 4, 3, 3, 2, 2, 1, 1, 1, 1};
        for (int i = 0; i < ends.length; i++) {
            x.line(ends[i][0], ends[i][1]);
            due.is("tree(" + i + ")", x.tree(i), tree[i]);
            due.is("many(4)", x.many(4), parts[i]);
            due.is("many(5)", x.many(5), 6 - parts[i]);
        }
        TurnBoards late = Boards.withPoints(1);
        late.line(0, 0);
        late.point();
        due.is("a POINT more, a PART more", late.many(4), 2);
        late.line(1, 0);
        due.is("tree(1)", late.tree(1), 1);
        due.is("one PART", late.many(4), 1);
    }

    private static void usedForAllItsCalls() {
        due.part("used for 512 calls");
        TurnBoards x = Boards.loops(0, 8, 1, 0);
        int calls = 3;
        for (int i = 0; calls < 503; i++) {
            due.is("set", x.set(0, (i + 1) % 8), i % 8);
            calls++;
        }
        // 500 sets: the last one to 4
        for (int left = 7; left >= 0; left--) {
            due.is("undo()", x.undo(), left);
        }
        due.is("call 512", x.at(0), (500 - 8) % 8);
    }
}
