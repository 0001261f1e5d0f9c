/** Each answer below 0, met once. What is refused changes nothing, so one object does for all. */
public final class Refused {
    public static void main(String[] args) {
        TurnBoards x = new TurnBoards();
        say("BAD, there is no point 0", x.line(0, 0));
        say("NONE, there is no walk to drop", x.drop());
        say("NONE, there is no act to undo", x.undo());
        say("NONE, sheet 0 is nothing", x.many(7));
        say("sheet 0 is nothing", x.lay(0, 0, 1));

        x.group(0, 3);
        for (int i = 0; i < 6; i++) {
            x.point();
        }
        x.line(0, 1);
        x.line(1, 0);
        x.walk(0);
        say("FULL, there are 6 points", x.point());
        say("STATE, line 1 does not begin at point 0", x.step(0, 1, false));
        say("BAD, the walk is not closed", x.sumBy(0, 0));

        x.sheet(0, 2, 4);
        say("sheet 0 has no cell 4", x.lay(0, 4, 1));
        say("sheet 0 holds ints, no bytes", x.fill(0, 0, 0));
        say("a sheet has no -1 cells", x.sheet(1, 0, -1));
        x.lay(0, 1, 3);
        say("3 in the cell of line 1 is no turn", x.fill(0, 2, 0));

        lay(x, 0, 1, 1, 2);
        say("2 in cell 3 is none of two turns", x.read(0, 2, 0, 2));
        lay(x, 0, 0, 1, 0);
        say("0 1 is not 1", x.read(0, 2, 0, 2));
        lay(x, 0, 1, 1, 1);
        say("1 has no back", x.read(0, 2, 0, 2));
        lay(x, 0, 1, 2, 1, 0, 1, 2, 1, 0);
        say("(1 1) 2 is not 1 (1 2)", x.read(0, 2, 0, 3));

        x.step(0, 0, false);
        x.step(0, 1, false);
        for (int a = 0; a < 3; a++) {
            x.worth(a, 0);
        }
        say("STATE, the sum is 0", x.mean(0, 0, 0));
        x.group(0, 8);
        for (int i = 0; i < 5; i++) {
            x.line(0, 0);
        }
        say("SPENT, 8 to 6 is above 40000", x.sum());
    }

    private static void lay(TurnBoards x, int... cells) {
        x.sheet(0, 2, cells.length);
        for (int i = 0; i < cells.length; i++) {
            x.lay(0, i, cells[i]);
        }
    }

    private static void say(String why, long answer) {
        System.out.println(answer + ": " + why);
    }
}
