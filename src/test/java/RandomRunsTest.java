import java.util.Random;

/** Runs of calls up to the last one that an object promises, answered by the plain Reference alike. */
public final class RandomRunsTest {
    private static final int RUNS = 400;
    private static final int[] ODD = {-1, -2, 0, 1, 12, 16, 600, 601, 1000, 1001, 2879, 2880, 2881,
        Integer.MAX_VALUE, Integer.MIN_VALUE};

    private final Random random;
    private final Bench bench = Bench.ofBusBlocks();
    private final Bench reference = Bench.ofReference();
    private final StringBuilder story = new StringBuilder();
    private final int places;
    private final int day;
    private final int prices;
    private final int mostTrips;
    private int trips = 0;
    private boolean right = true;

    private RandomRunsTest(long seed) {
        random = new Random(seed);
        places = 1 + random.nextInt(random.nextInt(4) == 0 ? 12 : 4);
        day = random.nextInt(3) == 0 ? 2880 : 40 + random.nextInt(800);
        prices = random.nextBoolean() ? 1 + random.nextInt(4) : 1001;
        mostTrips = random.nextInt(8) == 0 ? 16 : 2 + random.nextInt(11);
    }

    /** Behind the file's name: how many runs, and from which seed on, if others than those of .ci/run. */
    public static void main(String[] args) {
        int runs = args.length > 1 ? Integer.parseInt(args[1]) : RUNS;
        long seed = args.length > 2 ? Long.parseLong(args[2]) : 0;
        int wrong = 0;
        for (int run = 0; run < runs && wrong < 3; run++) {
            RandomRunsTest test = new RandomRunsTest(seed + run);
            if (!test.runAll()) {
                wrong++;
                System.out.println("run " + (seed + run) + ":\n" + test.story);
            }
        }
        System.out.println(runs + " random runs, " + wrong + " wrong");
        if (wrong != 0) {
            System.exit(1);
        }
    }

    private boolean goesOn() {
        return right && bench.left() > 0;
    }

    private int due(String call, int... of) {
        if (!goesOn()) {
            return 0;
        }
        int got = bench.ask(call, of);
        int want = reference.ask(call, of);
        story.append(Bench.text(call, of)).append(" = ").append(got).append('\n');
        if (got != want) {
            right = false;
            story.append("  due is ").append(want).append('\n');
        }
        return got;
    }

    private boolean runAll() {
        for (int a = 0; a < places; a++) {
            for (int b = 0; b < places; b++) {
                if (random.nextInt(5) != 0) {
                    way(a, b);
                }
            }
        }
        for (int p = 0; p < places; p++) {
            relief(p);
        }
        for (int i = 0; i < mostTrips; i++) {
            trip();
        }
        if (random.nextInt(3) == 0) {
            lookAtAll();
        }
        while (goesOn()) {
            change();
            for (int k = random.nextInt(8); k > 0; k--) {
                ask();
            }
            if (bench.left() < 200 && random.nextInt(20) == 0) {
                lookAtAll();
            }
        }
        return right;
    }

    /** Mostly 0 to below the bound, at times something odd. */
    private int some(int bound) {
        return random.nextInt(25) == 0 ? ODD[random.nextInt(ODD.length)] : random.nextInt(bound);
    }

    private void way(int a, int b) {
        int minutes = random.nextInt(6) == 0 ? -1 : some(1 + Math.min(600, day / 10));
        due("way", a, b, minutes, some(prices));
    }

    private void relief(int place) {
        due("relief", place, random.nextInt(3) != 0 ? 1 : 0);
    }

    private void trip() {
        int begin = some(day - 2);
        int end = random.nextInt(40) == 0 ? begin : begin + 1 + some(Math.max(1, day / 12));
        if (due("trip", some(places), some(places), begin, end) >= 0) {
            trips++;
        }
    }

    private void drop(int t) {
        trips -= due("drop", t);
    }

    private void laws() {
        int spread = some(1 + day / (1 + random.nextInt(3)));
        int work = some(1 + day / (1 + random.nextInt(4)));
        int pause = some(1 + Math.min(600, day / 15));
        due("laws", spread, work, pause, random.nextInt(4) != 0 ? 1 : 0);
    }

    private int someMinutes() {
        int minutes = some(1 + day / 4);
        return random.nextBoolean() ? minutes : -minutes;
    }

    private void change() {
        int t = some(mostTrips + 1);
        switch (random.nextInt(9)) {
            case 0: way(some(places), some(places)); break;
            case 1: relief(some(places)); break;
            case 2:
            case 3:
                if (trips < mostTrips || random.nextInt(10) == 0 && mostTrips == 16) {
                    trip();
                }
                break;
            case 4: drop(t); break;
            case 5:
            case 6: due("move", t, someMinutes()); break;
            default: laws(); break;
        }
    }

    private void ask() {
        int a = some(mostTrips + 1);
        int b = some(mostTrips + 1);
        int what = random.nextInt(7) - 1;
        switch (random.nextInt(14)) {
            case 0: due("tripOf", a, what); break;
            case 1: due("may", a, b); break;
            case 2: due("goesOn"); break;
            case 3: due("plan", what); break;
            case 4: due("block", a, b); break;
            case 5: due("planned", a, what); break;
            case 6: due("segment", a, what); break;
            case 7: clash(a, b); break;
            case 8: due("roster"); break;
            case 9:
            case 10: due("duty", a, what); break;
            case 11: due("apart"); break;
            case 12: due("saves", a, someMinutes()); break;
            default: due("about", what); break;
        }
    }

    private void clash(int a, int b) {
        int c = random.nextInt(3) == 0 ? -1 : some(mostTrips + 1);
        int d = some(mostTrips + 1);
        due("clash", a, random.nextBoolean() ? a : b, c, random.nextBoolean() ? c : d);
    }

    /** What tells THE PLAN and THE ROSTER whole. */
    private void lookAtAll() {
        due("roster");
        for (int what = 0; what < 5; what++) {
            due("plan", what);
        }
        for (int t = 0; t <= trips; t++) {
            due("planned", t, 0);
            due("planned", t, 1);
            due("planned", t, 3);
            for (int what = 0; what < 4; what++) {
                due("duty", t, what);
            }
        }
        for (int t = 0; t <= trips; t++) {
            due("block", t, 0);
            due("block", 0, t);
            due("segment", t, 1);
            due("segment", t, 3);
        }
    }
}
