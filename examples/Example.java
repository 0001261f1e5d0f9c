/** Two lines that make a ring, one walk round it, and what there is to ask. */
public final class Example {
    public static void main(String[] args) {
        TurnBoards x = new TurnBoards();
        x.group(0, 4);                      // the ring of 4: turns 0 to 3
        int here = x.point();
        int there = x.point();
        int out = x.line(here, there);
        int home = x.line(there, here);
        int round = x.walk(here);
        x.step(round, out, false);          // true: back, from its end to its beginning
        x.step(round, home, false);         // it is closed now
        x.worth(1, 3);                      // turn 1 is worth 3, the others 1
        x.set(out, 1);
        System.out.println("turn of the walk: " + x.told(round, 3));
        System.out.println("weight: " + x.weight());
        System.out.println("sum over all 16 ways: " + x.sum());
        System.out.println("held by turn 1: " + x.sumBy(round, 1));
        System.out.println("that is " + x.mean(round, 1, 0) + "/" + x.mean(round, 1, 1));
        System.out.println("ways that stand still: " + x.flat());

        System.out.println("lines changed by still(): " + x.still());
        System.out.println("turns then: " + x.at(out) + ", " + x.at(home));
        System.out.println("weight then: " + x.weight());
        System.out.println("acts left behind undo(): " + x.undo());
        System.out.println("turns again: " + x.at(out) + ", " + x.at(home));

        x.sheet(0, 2, 4);                   // sheet 0: a row of four ints, all 0
        x.lay(0, 2, 3);
        System.out.println("lines changed by fill(): " + x.fill(0, 2, 1));
        System.out.println("turns at last: " + x.at(out) + ", " + x.at(home));
    }
}
