/** The edges of the terms: just so and a minute (or a price) beyond. */
public final class EdgesTest extends Checks {
    private static final int[] WAYS = {0, 1, 15, 599, 600};

    private EdgesTest() {
    }

    public static void main(String[] args) {
        mayFollow();
        mayFollowAtOnePlace();
        greatestSlack();
        pricesAndBlocks();
        followedByNone();
        firstLaws();
        leastLaws();
        greatestLaws();
        breakOfLaw();
        wayOfDriver();
        lawsInTheirOrder();
        cuts();
        savesJustSo();
        wholeDay();
        piecesOfAllNumbers();
        end();
    }

    /** One BLOCK at a RELIEF, each trip a SEGMENT from the first minute to the second one. */
    private static Bench segments(int... minutes) {
        Bench bench = Bench.ofBusBlocks();
        bench.ask("relief", 0, 1);
        for (int i = 0; i < minutes.length; i += 2) {
            bench.ask("trip", 0, 0, minutes[i], minutes[i + 1]);
        }
        return bench;
    }

    private static void mayFollow() {
        for (int way : WAYS) {
            Bench bench = Bench.ofBusBlocks();
            bench.ask("trip", 0, 1, 0, 100);
            bench.ask("trip", 11, 0, 100 + way, 2000);
            due(bench, 0, "may", 0, 1);
            due(bench, 1, "way", 1, 11, way, 3);
            due(bench, 1, "may", 0, 1);
            due(bench, 0, "may", 1, 0);
            due(bench, 0, "planned", 0, 2);
            due(bench, 3, "plan", 1);
            due(bench, 1, "move", 1, -1);
            due(bench, 0, "may", 0, 1);
            due(bench, 2, "plan", 0);
            due(bench, 0, "plan", 1);
            due(bench, 1, "move", 1, 2);
            due(bench, 1, "may", 0, 1);
            due(bench, 1, "planned", 0, 2);
            due(bench, 1, "way", 1, 11, NONE, 3);
            due(bench, 0, "may", 0, 1);
            due(bench, 2, "plan", 0);
        }
    }

    private static void mayFollowAtOnePlace() {
        for (int place = 0; place < 12; place++) {
            Bench bench = Bench.ofBusBlocks();
            bench.ask("trip", place, place, 0, 100);
            bench.ask("trip", place, place, 100, 101);
            due(bench, 1, "may", 0, 1);
            due(bench, 0, "may", 0, 0);
            due(bench, 0, "may", 1, 1);
            due(bench, 0, "plan", 1);
            due(bench, 0, "plan", 3);
            due(bench, 1, "move", 1, -1);
            due(bench, 0, "may", 0, 1);
        }
    }

    private static void greatestSlack() {
        Bench bench = Bench.ofBusBlocks();
        bench.ask("trip", 0, 0, 0, 1);
        bench.ask("trip", 0, 0, 2878, 2879);
        due(bench, 2877, "planned", 0, 2);
        due(bench, 2877, "plan", 3);
        due(bench, 2877, "plan", 4);
        bench.ask("trip", 0, 0, 1, 2878);
        due(bench, 0, "plan", 3);
        due(bench, 0, "plan", 4);
        bench.ask("trip", 0, 0, 0, 2879);
        due(bench, 2, "plan", 0);
        due(bench, NONE, "planned", 3, 2);
    }

    /** A BLOCK fewer goes ahead of any PRICE, and a price of 1 counts among as many. */
    private static void pricesAndBlocks() {
        Bench bench = Bench.ofBusBlocks();
        bench.ask("way", 0, 1, 0, 1000);
        bench.ask("way", 1, 0, 0, 1000);
        for (int t = 0; t < 16; t++) {
            bench.ask("trip", t % 2, t % 2, 10 * t, 10 * t + 10);
        }
        due(bench, 1, "plan", 0);
        due(bench, 15000, "plan", 1);
        due(bench, 1, "way", 0, 1, NONE, 0);
        due(bench, 2, "plan", 0);
        due(bench, 0, "plan", 1);
        Bench two = Bench.ofBusBlocks();
        two.ask("trip", 0, 1, 0, 10);
        two.ask("trip", 2, 2, 20, 30);
        two.ask("trip", 3, 3, 20, 30);
        two.ask("way", 1, 2, 0, 1);
        two.ask("way", 1, 3, 0, 0);
        due(two, 2, "planned", 0, 1);
        due(two, 0, "plan", 1);
        two.ask("way", 1, 3, 0, 1);
        due(two, 1, "planned", 0, 1);
        two.ask("way", 1, 2, 0, 1000);
        two.ask("way", 1, 3, 0, 999);
        due(two, 2, "planned", 0, 1);
        due(two, 999, "plan", 1);
        two.ask("way", 1, 3, NONE, 0);
        due(two, 1, "planned", 0, 1);
        due(two, 1000, "plan", 1);
    }

    /** None counts as the highest: of trips 0 and 1, which one alone can be followed, it is trip 0. */
    private static void followedByNone() {
        Bench bench = segments(0, 10, 0, 10, 10, 20);
        due(bench, 2, "planned", 0, 1);
        due(bench, NONE, "planned", 1, 1);
        bench.ask("trip", 0, 0, 10, 20);
        due(bench, 2, "planned", 0, 1);
        due(bench, 3, "planned", 1, 1);
        bench.ask("drop", 0);
        due(bench, 1, "planned", 0, 1);
        due(bench, 0, "block", 0, 0);
        due(bench, 2, "block", 1, 0);
    }

    private static void firstLaws() {
        Bench bench = segments(0, 200, 230, 240, 860, 900, 930, 940);
        due(bench, 0, "clash", 0, 0, 2, 2);
        due(bench, 3, "clash", 0, 2, 3, 3);
        due(bench, 1, "move", 2, 1);
        due(bench, 3, "clash", 0, 0, 2, 2);
        bench = segments(0, 540, 570, 571);
        due(bench, 0, "clash", 0, 0, NONE, 0);
        due(bench, 4, "clash", 0, 0, 1, 1);
        due(bench, 4, "clash", 0, 1, NONE, 0);
        bench = segments(0, 541);
        due(bench, 4, "clash", 0, 0, NONE, 0);
        due(bench, NONE, "roster");
        bench = segments(0, 539, 569, 570);
        due(bench, 0, "clash", 0, 0, 1, 1);
        due(bench, 1, "move", 1, -1);
        due(bench, 2, "clash", 0, 0, 1, 1);
        bench = segments(0, 901);
        due(bench, 3, "clash", 0, 0, NONE, 0);
        bench = segments(0, 900);
        due(bench, 4, "clash", 0, 0, NONE, 0);
    }

    private static void leastLaws() {
        Bench bench = segments(0, 1, 1, 2, 10, 12);
        due(bench, 1, "laws", 1, 1, 0, 1);
        due(bench, 0, "clash", 0, 0, NONE, 0);
        due(bench, 3, "clash", 0, 0, 1, 1);
        due(bench, 3, "clash", 0, 1, NONE, 0);
        due(bench, 3, "clash", 2, 2, NONE, 0);
        due(bench, NONE, "roster");
        due(bench, 1, "laws", 2, 1, 0, 1);
        due(bench, 4, "clash", 0, 0, 1, 1);
        due(bench, 4, "clash", 2, 2, NONE, 0);
        due(bench, 1, "laws", 2, 2, 0, 1);
        due(bench, 0, "clash", 0, 0, 1, 1);
        due(bench, 0, "clash", 0, 1, NONE, 0);
        due(bench, 2, "roster");
        due(bench, 0, "duty", 0, 1);
        due(bench, 1, "duty", 0, 2);
        due(bench, 1, "laws", 2, 2, 1, 1);
        due(bench, 2, "clash", 0, 0, 1, 1);
        due(bench, 2, "roster");
        due(bench, 1, "duty", 0, 1);
        due(bench, NONE, "duty", 0, 2);
    }

    private static void greatestLaws() {
        Bench bench = segments(0, 2879);
        due(bench, 1, "laws", 2880, 2880, 600, 1);
        due(bench, 0, "clash", 0, 0, NONE, 0);
        due(bench, 1, "roster");
        due(bench, 1, "laws", 2879, 2879, 600, 1);
        due(bench, 0, "clash", 0, 0, NONE, 0);
        due(bench, 1, "laws", 2879, 2878, 600, 1);
        due(bench, 4, "clash", 0, 0, NONE, 0);
        due(bench, 1, "laws", 2878, 2879, 600, 1);
        due(bench, 3, "clash", 0, 0, NONE, 0);
        due(bench, NONE, "roster");
        bench = segments(0, 1000, 1600, 2879);
        due(bench, 1, "laws", 2879, 2279, 600, 1);
        due(bench, 0, "clash", 0, 0, 1, 1);
        due(bench, 4, "clash", 0, 1, NONE, 0);
        due(bench, 1, "roster");
        due(bench, 1, "laws", 2879, 2278, 600, 1);
        due(bench, 4, "clash", 1, 1, 0, 0);
        due(bench, 2, "roster");
        due(bench, 1, "move", 1, -1);
        due(bench, 2, "clash", 0, 0, 1, 1);
    }

    private static void breakOfLaw() {
        for (int pause : new int[] {0, 1, 30, 600}) {
            Bench bench = segments(0, 10, 10 + pause, 20 + pause);
            bench.ask("laws", 2880, 2880, pause, 1);
            due(bench, 0, "clash", 0, 0, 1, 1);
            due(bench, 0, "clash", 1, 1, 0, 0);
            due(bench, 1, "move", 0, 1);
            due(bench, 2, "clash", 0, 0, 1, 1);
            due(bench, 2, "clash", 1, 1, 0, 0);
        }
        Bench bench = segments(0, 10, 0, 10);
        bench.ask("laws", 2880, 2880, 0, 1);
        due(bench, 2, "clash", 0, 0, 1, 1);
        due(bench, 2, "clash", 1, 1, 0, 0);
        due(bench, 2, "roster");
        due(bench, 1, "move", 0, 10);
        due(bench, 0, "clash", 0, 0, 1, 1);
    }

    /**
     * Two BLOCKS, a trip each SEGMENT: 0 ends at place 1 at minute 100, and 3 begins at place 6 at 140.
     * A driver may change from the one to the other, by the WAY and the BREAK.
     */
    private static void wayOfDriver() {
        Bench bench = Bench.ofBusBlocks();
        bench.ask("relief", 1, 1);
        bench.ask("relief", 6, 1);
        bench.ask("trip", 0, 1, 0, 100);
        bench.ask("trip", 1, 1, 100, 200);
        bench.ask("trip", 5, 6, 50, 140);
        bench.ask("trip", 6, 6, 140, 150);
        due(bench, 2, "plan", 0);
        due(bench, 4, "plan", 2);
        due(bench, 2, "clash", 0, 0, 3, 3);
        int[][] wayAndBreak = {{40, 40, 0}, {41, 40, 2}, {40, 41, 2}, {0, 40, 0}, {0, 41, 2}, {40, 0, 0},
            {41, 0, 2}, {NONE, 0, 2}, {600, 0, 2}, {0, 0, 0}};
        for (int[] w : wayAndBreak) {
            due(bench, 1, "way", 1, 6, w[0], 1);
            due(bench, 1, "laws", 900, 540, w[1], 1);
            due(bench, 2, "plan", 0);
            due(bench, w[2], "clash", 0, 0, 3, 3);
            due(bench, w[2], "clash", 3, 3, 0, 0);
        }
        due(bench, 1, "way", 1, 6, NONE, 0);
        due(bench, 1, "way", 6, 1, 0, 0);
        due(bench, 1, "way", 0, 6, 0, 0);
        due(bench, 2, "clash", 0, 0, 3, 3);
    }

    private static void lawsInTheirOrder() {
        Bench bench = segments(0, 100, 129, 200);
        int[][] laws = {{1, 1, 30, 0, 1}, {1, 1, 30, 1, 2}, {1, 1, 29, 1, 3}, {200, 1, 29, 1, 4},
            {199, 2880, 29, 1, 3}, {200, 171, 29, 1, 0}, {200, 170, 29, 1, 4}, {200, 171, 30, 1, 2},
            {200, 171, 29, 0, 1}};
        for (int[] l : laws) {
            due(bench, 1, "laws", l[0], l[1], l[2], l[3]);
            due(bench, l[4], "clash", 0, 0, 1, 1);
            due(bench, l[4], "clash", 1, 1, 0, 0);
            due(bench, NONE, "clash", 0, 0, 0, 1);
            due(bench, NONE, "clash", 0, 1, 1, 1);
            due(bench, NONE, "clash", 0, 0, 2, 2);
        }
        due(bench, 1, "laws", 200, 200, 600, 0);
        due(bench, 0, "clash", 0, 1, NONE, 0);
        due(bench, 1, "laws", 200, 199, 600, 0);
        due(bench, 4, "clash", 0, 1, NONE, 0);
        due(bench, 1, "laws", 199, 199, 600, 0);
        due(bench, 3, "clash", 0, 1, NONE, 0);
    }

    /** A BLOCK is cut where a trip ends at a RELIEF, not where the next one begins at one. */
    private static void cuts() {
        Bench bench = Bench.ofBusBlocks();
        bench.ask("way", 1, 2, 0, 0);
        bench.ask("trip", 0, 1, 0, 10);
        bench.ask("trip", 2, 3, 10, 20);
        bench.ask("trip", 3, 4, 20, 30);
        due(bench, 1, "plan", 0);
        int[][] placesAndSegments = {{0, 1}, {1, 2}, {2, 1}, {3, 2}, {4, 1}};
        for (int[] p : placesAndSegments) {
            due(bench, 1, "relief", p[0], 1);
            due(bench, p[1], "plan", 2);
            due(bench, 1, "relief", p[0], 0);
            due(bench, 1, "plan", 2);
        }
        for (int place = 0; place < 12; place++) {
            due(bench, 1, "relief", place, 1);
        }
        due(bench, 3, "plan", 2);
        due(bench, NONE, "segment", 3, 0);
    }

    private static void savesJustSo() {
        Bench bench = segments(0, 10, 9, 20);
        due(bench, 1, "saves", 1, 1);
        due(bench, 0, "saves", 1, 0);
        due(bench, 0, "saves", 1, -9);
        due(bench, -100, "saves", 1, -10);
        due(bench, 1, "saves", 0, 20);
        due(bench, 0, "saves", 0, 19);
        due(bench, 1, "saves", 0, 2869);
        due(bench, -100, "saves", 0, 2870);
        due(bench, 2, "plan", 0);
        due(bench, 1, "move", 1, 1);
        due(bench, 1, "plan", 0);
        due(bench, -1, "saves", 1, -1);
        due(bench, 0, "saves", 1, 2858);
        due(bench, -100, "saves", 1, 2859);
        due(bench, 1, "plan", 0);
        due(bench, 10, "tripOf", 1, 2);
    }

    /** A trip from the first minute to the last can't be moved but by 0; one of a minute goes everywhere. */
    private static void wholeDay() {
        Bench bench = Bench.ofBusBlocks();
        bench.ask("trip", 0, 0, 0, 2879);
        bench.ask("trip", 0, 0, 0, 1);
        for (int minutes : new int[] {-1, 1, MIN, MAX}) {
            due(bench, 0, "move", 0, minutes);
            due(bench, -100, "saves", 0, minutes);
        }
        due(bench, 1, "move", 0, 0);
        due(bench, 0, "saves", 0, 0);
        due(bench, 0, "tripOf", 0, 2);
        due(bench, 2879, "tripOf", 0, 3);
        due(bench, 0, "move", 1, 2879);
        due(bench, 1, "move", 1, 2878);
        due(bench, 2878, "tripOf", 1, 2);
        due(bench, 2879, "tripOf", 1, 3);
        due(bench, 0, "move", 1, 1);
        due(bench, 0, "move", 1, -2879);
        due(bench, 1, "move", 1, -2878);
        due(bench, 0, "tripOf", 1, 2);
    }

    /** clash with each number from below NONE to behind the last SEGMENT at each argument. */
    private static void piecesOfAllNumbers() {
        int[] blockOf = {0, 0, 0, 1, 1};
        int most = blockOf.length;
        for (int a = -2; a <= most; a++) {
            for (int b = -2; b <= most; b++) {
                Bench bench = segments(0, 10, 100, 110, 200, 210);
                bench.ask("relief", 1, 1);
                bench.ask("trip", 1, 1, 300, 310);
                bench.ask("trip", 1, 1, 400, 410);
                bench.ask("laws", 2880, 2880, 0, 0);
                for (int c = -2; c <= most; c++) {
                    for (int d = -2; d <= most; d++) {
                        due(bench, clashOf(blockOf, a, b, c, d), "clash", a, b, c, d);
                    }
                }
            }
        }
    }

    /** Where two PIECES aren't allowed and the other LAWS are wide. */
    private static int clashOf(int[] blockOf, int a, int b, int c, int d) {
        if (!isPiece(blockOf, a, b)) {
            return NONE;
        }
        if (c == NONE) {
            return 0;
        }
        if (!isPiece(blockOf, c, d)) {
            return NONE;
        }
        for (int s = a; s <= b; s++) {
            if (s >= c && s <= d) {
                return NONE;
            }
        }
        return 1;
    }

    private static boolean isPiece(int[] blockOf, int a, int b) {
        return a >= 0 && b >= a && b < blockOf.length && blockOf[a] == blockOf[b];
    }
}
