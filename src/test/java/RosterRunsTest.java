import java.util.Random;

/** Random days of eight to twelve SEGMENTS and narrow LAWS: many DUTIES, most of them of two PIECES. */
public final class RosterRunsTest extends Checks {
    private static final int DAYS = 3000;
    private static final int LAWS_OF_A_DAY = 3;

    private final Random random;
    private final Bench bench = Bench.ofBusBlocks();
    private final Bench reference = Bench.ofReference();
    private final String day;

    private RosterRunsTest(long seed) {
        random = new Random(seed);
        day = "day " + seed + ": ";
    }

    /** Behind the file's name: how many days, and from which seed on, if others than those of .ci/run. */
    public static void main(String[] args) {
        int days = args.length > 1 ? Integer.parseInt(args[1]) : DAYS;
        long seed = args.length > 2 ? Long.parseLong(args[2]) : 0;
        for (int i = 0; i < days; i++) {
            RosterRunsTest test = new RosterRunsTest(seed + i);
            test.tellDay();
            for (int k = 0; k < LAWS_OF_A_DAY; k++) {
                test.tellLaws();
                test.lookAtRoster();
            }
        }
        end();
    }

    private void both(String call, int... of) {
        due(day + Bench.text(call, of), bench.ask(call, of), reference.ask(call, of));
    }

    /** Rows of short trips at some places, so that BLOCKS stay apart or change between places. */
    private void tellDay() {
        int places = 1 + random.nextInt(4);
        int trips = 8 + random.nextInt(5);
        int gap = 10 + random.nextInt(40);
        for (int a = 0; a < places; a++) {
            both("relief", a, 1);
            for (int b = 0; b < places; b++) {
                if (random.nextInt(3) != 0) {
                    both("way", a, b, random.nextInt(2 * gap), random.nextInt(3));
                }
            }
        }
        int[] free = new int[places];
        for (int t = 0; t < trips; t++) {
            int place = random.nextInt(places);
            int begin = free[place] + random.nextInt(gap);
            int end = begin + 1 + random.nextInt(gap);
            both("trip", place, random.nextInt(4) == 0 ? random.nextInt(places) : place, begin, end);
            free[place] = end;
        }
        both("plan", 2);
    }

    private void tellLaws() {
        int longest = 1;
        for (int t = 0; t < reference.ask("about", 0); t++) {
            longest = Math.max(longest, reference.ask("tripOf", t, 3) - reference.ask("tripOf", t, 2));
        }
        int work = longest + random.nextInt(2 * longest);
        both("laws", work + random.nextInt(300), work, random.nextInt(40), random.nextInt(8) == 0 ? 0 : 1);
    }

    private void lookAtRoster() {
        both("roster");
        for (int i = 0; i <= 12; i++) {
            for (int what = 0; what < 4; what++) {
                both("duty", i, what);
            }
        }
    }
}
