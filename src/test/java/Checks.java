import java.util.List;

/** What the tests share: they count the answers and print each that is not the one that is due. */
abstract class Checks {
    static final int NONE = -1;
    static final int MAX = Integer.MAX_VALUE;
    static final int MIN = Integer.MIN_VALUE;
    private static int asked = 0;
    private static int wrong = 0;

    static void due(String what, int got, int want) {
        asked++;
        if (got != want) {
            wrong++;
            System.out.println(what + ": answered " + got + ", due is " + want);
        }
    }

    static void due(String what, boolean got, boolean want) {
        due(what, got ? 1 : 0, want ? 1 : 0);
    }

    /** Asks the call of the bench. */
    static void due(Bench bench, int want, String call, int... of) {
        due(Bench.text(call, of), bench.ask(call, of), want);
    }

    /** Two pictures that must be alike; the first row that isn't is told. */
    static void alike(String what, List<String> got, List<String> want) {
        asked++;
        if (got.equals(want)) {
            return;
        }
        wrong++;
        int row = 0;
        while (row < got.size() && row < want.size() && got.get(row).equals(want.get(row))) {
            row++;
        }
        System.out.println(what + ": tells " + (row < got.size() ? got.get(row) : "no more") + ", due is "
            + (row < want.size() ? want.get(row) : "no more"));
    }

    static void end() {
        System.out.println(asked + " answers, " + wrong + " wrong");
        if (wrong != 0) {
            System.exit(1);
        }
    }
}
