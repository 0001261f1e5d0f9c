import java.util.ArrayList;
import java.util.List;
import java.util.Random;

/** Long runs of calls, the same each time, on the class and on the plain model: answers agree. */
public final class ModelTest {
    private static final int RUNS = 400, CALLS = 512;
    private static final int[] EDGES = {Integer.MIN_VALUE, -65, -1, 0, 1, 2, 3, 5, 6, 7, 8, 9, 10,
        63, 64, 65, 255, 256, 32768, 65536, Integer.MAX_VALUE};

    private final Random random;
    private final int run;
    private final TurnBoards real = new TurnBoards();
    private final PlainModel plain = new PlainModel();
    private final List<String> said = new ArrayList<>();
    private int calls;
    private int sums;

    private ModelTest(int run) {
        this.run = run;
        random = new Random(run);
    }

    public static void main(String[] args) {
        long answers = 0;
        for (int run = 0; run < RUNS; run++) {
            ModelTest test = new ModelTest(run);
            test.go();
            answers += test.calls;
        }
        System.out.println(answers + " answers as the plain model's");
    }

    private void go() {
        choosePlan();
        while (calls < CALLS) {
            callSome();
        }
    }

    /** Most runs begin with some board, or hardly one would ever have sums to speak of. */
    private void choosePlan() {
        int points = random.nextInt(7);
        for (int p = 0; p < points; p++) {
            point();
        }
        newGroup();
        int lines = random.nextInt(8);
        for (int i = 0; i < lines && points > 0; i++) {
            line(random.nextInt(points), random.nextInt(points));
        }
        int walks = random.nextInt(4);
        for (int w = 0; w < walks; w++) {
            closedWalk();
        }
    }

    private void callSome() {
        switch (random.nextInt(28)) {
            case 0: newGroup(); break;
            case 1: readGroup(); break;
            case 2: same("times", args(turn(), turn()), a -> real.times(a[0], a[1]), a -> plain.times(a[0], a[1])); break;
            case 3: same("turn", args(turn(), any(6)), a -> real.turn(a[0], a[1]), a -> plain.turn(a[0], a[1])); break;
            case 4: same("about", args(any(5)), a -> real.about(a[0]), a -> plain.about(a[0])); break;
            case 5: same("worth", args(turn(), any(10)), a -> real.worth(a[0], a[1]), a -> plain.worth(a[0], a[1])); break;
            case 6: point(); break;
            case 7: line(any(plain.many(0)), any(plain.many(0))); break;
            case 8: closedWalk(); break;
            case 9: walk(any(plain.many(0))); break;
            case 10: case 11: step(any(plain.many(2)), any(plain.many(1)), random.nextInt(2)); break;
            case 12: same("counts", args(any(plain.many(2)), random.nextInt(2)), a -> real.counts(a[0], a[1] == 1), a -> plain.counts(a[0], a[1] == 1)); break;
            case 13: same("told", args(any(plain.many(2)), any(5)), a -> real.told(a[0], a[1]), a -> plain.told(a[0], a[1])); break;
            case 14: same("drop", args(), a -> real.drop(), a -> plain.drop()); break;
            case 15: case 16: same("set", args(any(plain.many(1)), turn()), a -> real.set(a[0], a[1]), a -> plain.set(a[0], a[1])); break;
            case 17: same("weight", args(), a -> real.weight(), a -> plain.weight()); break;
            case 18: same("twist", args(any(plain.many(0)), turn()), a -> real.twist(a[0], a[1]), a -> plain.twist(a[0], a[1])); break;
            case 19: same("still", args(), a -> real.still(), a -> plain.still()); break;
            case 20: case 21: same("undo", args(), a -> real.undo(), a -> plain.undo()); break;
            case 22: same("tree", args(any(plain.many(1))), a -> real.tree(a[0]), a -> plain.tree(a[0])); break;
            case 23: someSum(); break;
            case 24: someSheet(); break;
            case 25: lay(any(4), any(12), any(8)); break;
            case 26: same("fill", args(any(4), any(3), any(4)), a -> real.fill(a[0], a[1], a[2]), a -> plain.fill(a[0], a[1], a[2])); break;
            default: same("many", args(any(8)), a -> real.many(a[0]), a -> plain.many(a[0])); break;
        }
        allLines();
    }

    /** A number below some bound, now and then one that is not. */
    private int any(int below) {
        if (below <= 0 || random.nextInt(25) == 0) {
            return EDGES[random.nextInt(EDGES.length)];
        }
        return random.nextInt(below);
    }

    private int turn() {
        return any(plain.about(0));
    }

    private void point() {
        same("point", args(), a -> real.point(), a -> plain.point());
    }

    private void line(int from, int to) {
        same("line", args(from, to), a -> real.line(a[0], a[1]), a -> plain.line(a[0], a[1]));
    }

    private void walk(int p) {
        same("walk", args(p), a -> real.walk(a[0]), a -> plain.walk(a[0]));
    }

    private void step(int w, int line, int back) {
        same("step", args(w, line, back), a -> real.step(a[0], a[1], a[2] == 1), a -> plain.step(a[0], a[1], a[2] == 1));
    }

    private void lay(int k, int i, int v) {
        same("lay", args(k, i, v), a -> real.lay(a[0], a[1], a[2]), a -> plain.lay(a[0], a[1], a[2]));
    }

    private void newGroup() {
        int kind = any(3);
        int n = kind == 2 && random.nextInt(4) != 0 ? 8 : kind == 1 ? any(6) : 1 + any(5);
        same("group", args(kind, n), a -> real.group(a[0], a[1]), a -> plain.group(a[0], a[1]));
    }

    private void closedWalk() {
        if (plain.many(0) == 0) {
            return;
        }
        walk(random.nextInt(plain.many(0)));
        int w = plain.many(2) - 1;
        for (int tries = 0; tries < 14 && plain.many(1) > 0 && plain.told(w, 2) != 1; tries++) {
            step(w, random.nextInt(plain.many(1)), random.nextInt(2));
        }
    }

    private void someSum() {
        // the plain model is slow at these
        if (sums++ > 12) {
            return;
        }
        int w = any(plain.many(2));
        int a0 = turn();
        same("sum", args(), a -> real.sum(), a -> plain.sum());
        same("flat", args(), a -> real.flat(), a -> plain.flat());
        same("sumBy", args(w, a0), a -> real.sumBy(a[0], a[1]), a -> plain.sumBy(a[0], a[1]));
        same("mean", args(w, a0, any(2)), a -> real.mean(a[0], a[1], a[2]), a -> plain.mean(a[0], a[1], a[2]));
    }

    private void someSheet() {
        sheet(any(4), any(3), any(random.nextInt(3) == 0 ? 65 : 12));
    }

    private void sheet(int k, int lane, int n) {
        same("sheet", args(k, lane, n), a -> real.sheet(a[0], a[1], a[2]), a -> plain.sheet(a[0], a[1], a[2]));
    }

    /** THE GROUP with other names for its TURNS, laid, perhaps spoilt, and read. */
    private void readGroup() {
        int n = plain.about(0);
        if (random.nextInt(4) != 0 && n > 4) {
            return;
        }
        int k = random.nextInt(4);
        int lane = random.nextInt(3);
        int f = n == 8 ? 0 : random.nextInt(3);
        int[] names = otherNames(n);
        sheet(k, lane, n * n + f);
        int[] cells = new int[n * n];
        for (int i = 0; i < n * n; i++) {
            cells[n * names[i / n] + names[i % n]] = names[plain.times(i / n, i % n)];
        }
        for (int spoilt = random.nextInt(3); spoilt > 0; spoilt--) {
            cells[random.nextInt(n * n)] = any(n);
        }
        for (int i = 0; i < n * n; i++) {
            lay(k, f + i, cells[i]);
        }
        same("read", args(any(20) < 19 ? k : any(4), random.nextInt(20) < 19 ? lane : any(3), random.nextInt(20) < 19 ? f : any(4), random.nextInt(20) < 19 ? n : any(9)),
            a -> real.read(a[0], a[1], a[2], a[3]), a -> plain.read(a[0], a[1], a[2], a[3]));
    }

    private int[] otherNames(int n) {
        int[] names = new int[n];
        for (int i = 1; i < n; i++) {
            int other = 1 + random.nextInt(i);
            names[i] = names[other];
            names[other] = i;
        }
        return names;
    }

    private void allLines() {
        for (int i = 0; i < plain.many(1); i++) {
            check("at(" + i + ")", real.at(i), plain.at(i));
        }
        check("many(6)", real.many(6), plain.many(6));
    }

    private interface Call {
        long on(int[] args);
    }

    private static int[] args(int... numbers) {
        return numbers;
    }

    private void same(String name, int[] args, Call onReal, Call onPlain) {
        calls++;
        long want = onPlain.on(args);
        said.add(name + java.util.Arrays.toString(args) + " -> " + want);
        check(said.get(said.size() - 1), onReal.on(args), want);
    }

    private void check(String call, long got, long want) {
        if (got != want) {
            said.forEach(System.out::println);
            System.out.println("run " + run + ": " + call + " answered " + got + ", due is " + want);
            System.exit(1);
        }
    }
}
