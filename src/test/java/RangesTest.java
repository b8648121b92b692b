import java.util.LinkedHashSet;
import java.util.List;
import java.util.Set;
import java.util.function.Consumer;

/**
 * Each argument of each call: the last values that are taken and the first that are refused at both
 * ends, the least and the greatest int, and values that look right to the lower bits alone. A refused
 * call changes nothing, and a taken one what the Reference says.
 */
public final class RangesTest extends Checks {
    private static final int[] WRAPS = {1 << 8, 1 << 16, 1 << 28, 1 << 30, 1 << 31};

    private final Consumer<Bench> story;
    private final List<String> before;

    private RangesTest(Consumer<Bench> story) {
        this.story = story;
        before = Picture.of(Bench::ofBusBlocks, story);
    }

    public static void main(String[] args) {
        dayIsAsTold();
        new RangesTest(Stories::dayWithRoster).changes();
        new RangesTest(Stories::dayWithRoster).questions();
        new RangesTest(Stories::dayWithRoster).clash();
        new RangesTest(Stories::fullDayWithRoster).fullDay();
        new RangesTest(Stories::nothing).newObject();
        end();
    }

    private static void dayIsAsTold() {
        Bench bench = Bench.ofBusBlocks();
        Stories.dayWithRoster(bench);
        int[][] blocks = {{0, 1, 2, 3, 9, NONE}, {4, 5, 6, NONE}, {7, 8, NONE}, {NONE}};
        for (int b = 0; b < blocks.length; b++) {
            for (int i = 0; i < blocks[b].length; i++) {
                due(bench, blocks[b][i], "block", b, i);
            }
        }
        int[] plan = {3, 7, 8, 70, 10};
        for (int what = 0; what < plan.length; what++) {
            due(bench, plan[what], "plan", what);
        }
        int[][] duties = {{0, 0, 1, 4}, {5, 5, NONE, NONE}, {6, 6, 7, 7}, {NONE, NONE, NONE, NONE}};
        for (int i = 0; i < duties.length; i++) {
            for (int what = 0; what < 4; what++) {
                due(bench, duties[i][what], "duty", i, what);
            }
        }
    }

    /** Argument k of a call that is right else: taken from least to most, answered so beyond. */
    private void range(int beyond, int least, int most, int k, String call, int... of) {
        for (int x : new int[] {least, of[k], most}) {
            taken(beyond, call, with(of, k, x));
        }
        Set<Integer> others = new LinkedHashSet<>(List.of(least - 1, most + 1, MIN, MIN + 1, MAX - 1, MAX));
        for (int wrap : WRAPS) {
            others.add(of[k] + wrap);
            others.add(of[k] - wrap);
        }
        for (int x : others) {
            if (x < least || x > most) {
                refused(beyond, call, with(of, k, x));
            }
        }
    }

    private static int[] with(int[] of, int k, int x) {
        int[] changed = of.clone();
        changed[k] = x;
        return changed;
    }

    private void refused(int answer, String call, int... of) {
        Bench bench = Bench.ofBusBlocks();
        story.accept(bench);
        due(bench, answer, call, of);
        alike(Bench.text(call, of) + " changes something",
            Picture.of(Bench::ofBusBlocks, Stories.then(story, call, of)), before);
    }

    private void taken(int refusal, String call, int... of) {
        Bench bench = Bench.ofBusBlocks();
        Bench reference = Bench.ofReference();
        story.accept(bench);
        story.accept(reference);
        int answer = bench.ask(call, of);
        due(Bench.text(call, of) + " is refused", answer == refusal, false);
        due(Bench.text(call, of), answer, reference.ask(call, of));
        alike("behind " + Bench.text(call, of), Picture.of(Bench::ofBusBlocks, Stories.then(story, call, of)),
            Picture.of(Bench::ofReference, Stories.then(story, call, of)));
    }

    private void changes() {
        range(0, 0, 11, 0, "way", 5, 6, 10, 10);
        range(0, 0, 11, 1, "way", 6, 5, 10, 10);
        range(0, -1, 600, 2, "way", 5, 6, 10, 10);
        range(0, 0, 1000, 3, "way", 5, 6, 10, 10);
        range(0, 0, 1000, 3, "way", 5, 6, NONE, 10);
        for (int place = 0; place < 12; place++) {
            refused(0, "way", place, place, 0, 0);
            refused(0, "way", place, place, 600, 1000);
            refused(0, "way", place, place, NONE, 0);
        }
        range(0, 0, 11, 0, "relief", 5, 1);
        range(0, 0, 11, 0, "relief", 2, 0);
        range(NONE, 0, 11, 0, "trip", 5, 6, 1000, 1100);
        range(NONE, 0, 11, 1, "trip", 5, 6, 1000, 1100);
        range(NONE, 0, 1099, 2, "trip", 5, 6, 1000, 1100);
        range(NONE, 1001, 2879, 3, "trip", 5, 6, 1000, 1100);
        range(NONE, 0, 2878, 2, "trip", 5, 6, 1000, 2879);
        range(NONE, 1, 2879, 3, "trip", 5, 6, 0, 1100);
        refused(NONE, "trip", 5, 6, MIN, MAX);
        refused(NONE, "trip", 5, 6, 2879, 2880);
        refused(NONE, "trip", 5, 6, 2879, 2879);
        refused(NONE, "trip", 5, 6, -2, -1);
        range(0, 0, 9, 0, "drop", 4);
        range(0, 0, 9, 0, "move", 4, 1);
        range(0, 0, 9, 0, "move", 4, 0);
        range(0, -100, 2749, 1, "move", 4, 5);
        range(0, -600, 2249, 1, "move", 8, -5);
        for (int two = 0; two < 2; two++) {
            range(0, 1, 2880, 0, "laws", 800, 500, 50, two);
            range(0, 1, 2880, 1, "laws", 800, 500, 50, two);
            range(0, 0, 600, 2, "laws", 800, 500, 50, two);
        }
    }

    private void questions() {
        range(NONE, 0, 9, 0, "tripOf", 4, 2);
        range(NONE, 0, 3, 1, "tripOf", 4, 2);
        range(NONE, 0, 9, 0, "may", 4, 5);
        range(NONE, 0, 9, 1, "may", 4, 5);
        range(NONE, 0, 4, 0, "plan", 2);
        range(NONE, 0, 2, 0, "block", 1, 0);
        int[] sizes = {5, 3, 2};
        for (int b = 0; b < sizes.length; b++) {
            range(NONE, 0, sizes[b] - 1, 1, "block", b, 1);
        }
        range(NONE, 0, 9, 0, "planned", 4, 0);
        range(NONE, 0, 3, 1, "planned", 4, 0);
        range(NONE, 0, 7, 0, "segment", 4, 1);
        range(NONE, 0, 3, 1, "segment", 4, 1);
        range(NONE, 0, 2, 0, "duty", 1, 0);
        range(NONE, 0, 3, 1, "duty", 0, 1);
        range(NONE, 0, 3, 1, "duty", 2, 1);
        range(-100, 0, 9, 0, "saves", 4, 0);
        range(-100, -100, 2749, 1, "saves", 4, 0);
        range(-100, -600, 2249, 1, "saves", 8, 0);
        range(NONE, 0, 4, 0, "about", 2);
        taken(MIN, "goesOn");
        taken(MIN, "apart");
        taken(MIN, "roster");
    }

    private void clash() {
        for (int d : new int[] {NONE, 0, 3, 8, MIN, MAX}) {
            taken(NONE, "clash", 1, 3, NONE, d);
            refused(NONE, "clash", 3, 1, NONE, d);
        }
        range(NONE, 0, 3, 0, "clash", 1, 3, NONE, 0);
        range(NONE, 1, 4, 1, "clash", 1, 3, NONE, 0);
        range(NONE, 6, 7, 0, "clash", 6, 7, NONE, 0);
        range(NONE, 6, 7, 1, "clash", 6, 6, NONE, 0);
        range(NONE, 5, 5, 0, "clash", 5, 5, NONE, 0);
        range(NONE, 5, 5, 1, "clash", 5, 5, NONE, 0);
        range(NONE, 1, 3, 0, "clash", 2, 3, 0, 0);
        range(NONE, 2, 4, 1, "clash", 2, 3, 0, 0);
        range(NONE, 1, 3, 2, "clash", 0, 0, 2, 3);
        range(NONE, 2, 4, 3, "clash", 0, 0, 2, 3);
        range(NONE, 0, 1, 3, "clash", 2, 4, 0, 1);
        taken(NONE, "clash", 2, 4, 1, 1);
        refused(NONE, "clash", 2, 4, 2, 1);
        refused(NONE, "clash", 2, 4, -2, 1);
        range(NONE, 6, 7, 2, "clash", 0, 4, 6, 7);
        range(NONE, 6, 7, 3, "clash", 0, 4, 6, 6);
        taken(NONE, "clash", 0, 0, NONE, 0);
        refused(NONE, "clash", 0, 0, -2, 0);
        refused(NONE, "clash", NONE, NONE, NONE, NONE);
        refused(NONE, "clash", NONE, 0, 1, 2);
    }

    private void fullDay() {
        range(0, 0, 15, 0, "drop", 4);
        range(0, 0, 15, 0, "move", 4, 0);
        range(NONE, 0, 15, 0, "tripOf", 4, 2);
        range(NONE, 0, 15, 0, "may", 4, 5);
        range(NONE, 0, 15, 1, "may", 4, 5);
        range(NONE, 0, 15, 0, "planned", 4, 0);
        range(-100, 0, 15, 0, "saves", 4, 0);
        refused(NONE, "trip", 5, 6, 1000, 1100);
        refused(NONE, "trip", 0, 0, 0, 1);
        refused(NONE, "trip", 11, 11, 0, 2879);
        refused(NONE, "trip", 12, 6, 1000, 1100);
    }

    private void newObject() {
        alike("a new object", before, Picture.of(Bench::ofReference, story));
        for (int x : new int[] {0, 1, 15, 16, NONE, MIN, MAX}) {
            refused(0, "drop", x);
            refused(0, "move", x, 0);
            refused(NONE, "tripOf", x, 0);
            refused(NONE, "may", x, x);
            refused(NONE, "block", x, 0);
            refused(NONE, "block", 0, x);
            refused(NONE, "planned", x, 0);
            refused(NONE, "segment", x, 0);
            refused(NONE, "clash", x, x, NONE, 0);
            refused(NONE, "clash", x, x, 0, 0);
            refused(NONE, "duty", x, 0);
            refused(NONE, "duty", 0, x);
            refused(-100, "saves", x, 0);
        }
        range(0, 0, 11, 0, "relief", 5, 1);
        range(NONE, 0, 11, 0, "trip", 5, 6, 1000, 1100);
        range(NONE, 0, 2878, 2, "trip", 5, 6, 0, 2879);
        range(NONE, 0, 4, 0, "about", 2);
        range(0, 1, 2880, 0, "laws", 800, 500, 50, 0);
        range(0, 0, 11, 0, "way", 5, 6, 10, 10);
    }
}
