/** Holds answers against those that are due, and ends the test's program. */
final class Due {
    private String part = "";
    private int wrong;
    private int asked;

    void part(String name) {
        part = name;
    }

    void is(String call, long got, long want) {
        asked++;
        if (got != want) {
            wrong++;
            System.out.println(part + ": " + call + " answered " + got + ", due is " + want);
        }
    }

    void row(String call, int[] got, int... want) {
        is(call + " length", got.length, want.length);
        for (int i = 0; i < got.length && i < want.length; i++) {
            is(call + " [" + i + "]", got[i], want[i]);
        }
    }

    void holds(String claim, boolean so) {
        is(claim, so ? 1 : 0, 1);
    }

    void end() {
        System.out.println(asked + " answers, " + wrong + " not as due");
        if (wrong != 0) {
            System.exit(1);
        }
    }
}
