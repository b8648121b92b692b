import java.util.Random;

/** Runs of many calls, each answered by BusBlocks and by the plain Reference alike. */
public final class RandomRunsTest {
    private static final int RUNS = 300;
    private static final int CALLS = 100;
    private static final int[] ODD = {-1, -2, 0, 1, 12, 16, 600, 601, 1000, 1001, 2879, 2880, 2881,
        Integer.MAX_VALUE, Integer.MIN_VALUE};

    private final Random random;
    private final BusBlocks bench = new BusBlocks();
    private final Reference reference = new Reference();
    private final StringBuilder story = new StringBuilder();
    private final int places;
    private final int day;
    private final int prices;
    private final int mostTrips;
    private boolean right = true;

    private RandomRunsTest(long seed) {
        random = new Random(seed);
        places = 1 + random.nextInt(random.nextInt(4) == 0 ? 12 : 4);
        day = random.nextInt(3) == 0 ? 2880 : 40 + random.nextInt(800);
        prices = random.nextBoolean() ? 1 + random.nextInt(4) : 1001;
        mostTrips = random.nextInt(8) == 0 ? 16 : 2 + random.nextInt(9);
    }

    public static void main(String[] args) {
        int wrong = 0;
        for (int run = 0; run < RUNS; run++) {
            RandomRunsTest test = new RandomRunsTest(run);
            if (!test.runAll()) {
                wrong++;
                System.out.println("run " + run + ":\n" + test.story);
            }
            if (wrong == 3) {
                break;
            }
        }
        System.out.println(RUNS + " random runs, " + wrong + " wrong");
        if (wrong != 0) {
            System.exit(1);
        }
    }

    private boolean runAll() {
        for (int a = 0; a < places; a++) {
            for (int b = 0; b < places; b++) {
                if (random.nextInt(5) != 0) {
                    way(a, b);
                }
            }
        }
        for (int p = 0; p < places; p++) {
            relief(p);
        }
        for (int i = 0; i < mostTrips; i++) {
            trip();
        }
        lookAtAll();
        for (int i = 0; right && i < CALLS; i++) {
            change();
            for (int k = random.nextInt(8); k > 0; k--) {
                ask();
            }
            if (random.nextInt(40) == 0) {
                lookAtAll();
            }
        }
        return right;
    }

    private void due(String call, long got, long want) {
        if (right) {
            story.append(call).append(" = ").append(got).append('\n');
            if (got != want) {
                right = false;
                story.append("  due is ").append(want).append('\n');
            }
        }
    }

    private void due(String call, boolean got, boolean want) {
        due(call, got ? 1 : 0, want ? 1 : 0);
    }

    /** Mostly 0 to below the bound, at times something odd. */
    private int some(int bound) {
        return random.nextInt(25) == 0 ? ODD[random.nextInt(ODD.length)] : random.nextInt(bound);
    }

    private void way(int a, int b) {
        int minutes = random.nextInt(6) == 0 ? -1 : some(1 + Math.min(600, day / 10));
        int price = some(prices);
        due("way(" + a + ", " + b + ", " + minutes + ", " + price + ")",
            bench.way(a, b, minutes, price), reference.way(a, b, minutes, price));
    }

    private void relief(int place) {
        boolean it = random.nextInt(3) != 0;
        due("relief(" + place + ", " + it + ")", bench.relief(place, it), reference.relief(place, it));
    }

    private void trip() {
        int begin = some(day - 2);
        int end = random.nextInt(40) == 0 ? begin : begin + 1 + some(Math.max(1, day / 12));
        int from = some(places);
        int to = some(places);
        due("trip(" + from + ", " + to + ", " + begin + ", " + end + ")",
            bench.trip(from, to, begin, end), reference.trip(from, to, begin, end));
    }

    private void laws() {
        int spread = some(1 + day / (1 + random.nextInt(3)));
        int work = some(1 + day / (1 + random.nextInt(4)));
        int pause = some(1 + Math.min(600, day / 15));
        boolean two = random.nextInt(4) != 0;
        due("laws(" + spread + ", " + work + ", " + pause + ", " + two + ")",
            bench.laws(spread, work, pause, two), reference.laws(spread, work, pause, two));
    }

    private int someMinutes() {
        int minutes = some(1 + day / 4);
        return random.nextBoolean() ? minutes : -minutes;
    }

    private void change() {
        int t = some(mostTrips + 1);
        switch (random.nextInt(9)) {
            case 0:
                way(some(places), some(places));
                break;
            case 1:
                relief(some(places));
                break;
            case 2:
            case 3:
                if (reference.about(0) < mostTrips || random.nextInt(10) == 0 && mostTrips == 16) {
                    trip();
                }
                break;
            case 4:
                due("drop(" + t + ")", bench.drop(t), reference.drop(t));
                break;
            case 5:
            case 6:
                int minutes = someMinutes();
                due("move(" + t + ", " + minutes + ")", bench.move(t, minutes), reference.move(t, minutes));
                break;
            default:
                laws();
                break;
        }
    }

    private void ask() {
        int a = some(mostTrips + 1);
        int b = some(mostTrips + 1);
        int what = random.nextInt(7) - 1;
        switch (random.nextInt(14)) {
            case 0: due("tripOf(" + a + ", " + what + ")", bench.tripOf(a, what), reference.tripOf(a, what)); break;
            case 1: due("may(" + a + ", " + b + ")", bench.may(a, b), reference.may(a, b)); break;
            case 2: due("goesOn()", bench.goesOn(), reference.goesOn()); break;
            case 3: due("plan(" + what + ")", bench.plan(what), reference.plan(what)); break;
            case 4: due("block(" + a + ", " + b + ")", bench.block(a, b), reference.block(a, b)); break;
            case 5: due("planned(" + a + ", " + what + ")", bench.planned(a, what), reference.planned(a, what)); break;
            case 6: due("segment(" + a + ", " + what + ")", bench.segment(a, what), reference.segment(a, what)); break;
            case 7: clash(a, b); break;
            case 8: due("roster()", bench.roster(), reference.roster()); break;
            case 9:
            case 10: due("duty(" + a + ", " + what + ")", bench.duty(a, what), reference.duty(a, what)); break;
            case 11: due("apart()", bench.apart(), reference.apart()); break;
            case 12:
                int minutes = someMinutes();
                due("saves(" + a + ", " + minutes + ")", bench.saves(a, minutes), reference.saves(a, minutes));
                break;
            default: due("about(" + what + ")", bench.about(what), reference.about(what)); break;
        }
    }

    private void clash(int a, int b) {
        int c = random.nextInt(3) == 0 ? -1 : some(mostTrips + 1);
        int d = some(mostTrips + 1);
        int to = random.nextBoolean() ? a : b;
        int until = random.nextBoolean() ? c : d;
        due("clash(" + a + ", " + to + ", " + c + ", " + until + ")",
            bench.clash(a, to, c, until), reference.clash(a, to, c, until));
    }

    private void lookAtAll() {
        due("roster()", bench.roster(), reference.roster());
        for (int what = 0; what < 5; what++) {
            due("plan(" + what + ")", bench.plan(what), reference.plan(what));
        }
        for (int t = 0; t < 16; t++) {
            for (int what = 0; what < 4; what++) {
                due("planned(" + t + ", " + what + ")", bench.planned(t, what), reference.planned(t, what));
                due("segment(" + t + ", " + what + ")", bench.segment(t, what), reference.segment(t, what));
                due("duty(" + t + ", " + what + ")", bench.duty(t, what), reference.duty(t, what));
                due("tripOf(" + t + ", " + what + ")", bench.tripOf(t, what), reference.tripOf(t, what));
            }
            for (int i = 0; i < 16; i++) {
                due("block(" + t + ", " + i + ")", bench.block(t, i), reference.block(t, i));
            }
        }
    }
}
