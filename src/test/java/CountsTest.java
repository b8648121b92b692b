/** None and as many as there may be: no trips, 16 trips; no SEGMENT, 12 and 13; 512 calls. */
public final class CountsTest extends Checks {
    private CountsTest() {
    }

    public static void main(String[] args) {
        noTrips(Bench.ofBusBlocks());
        noTripsAnyMore();
        oneTrip();
        sixteenTripsInOneBlock();
        sixteenBlocks();
        dropEachOfSixteen();
        sixteenAgainAndAgain();
        sixteenSegments();
        noSegment();
        twelveSegmentsOfOneBlock();
        twelveSegmentsOfTwoBlocks();
        twelveSegmentsOfTwelveBlocks();
        twelveSegmentsOfSixteenTrips();
        thirteenAndTwelve();
        lastOfAllCalls();
        end();
    }

    private static void noTrips(Bench bench) {
        due(bench, 0, "about", 0);
        int[] plan = {0, 0, 0, NONE, NONE};
        for (int what = 0; what < plan.length; what++) {
            due(bench, plan[what], "plan", what);
        }
        due(bench, 1, "goesOn");
        due(bench, 0, "apart");
        for (int x : new int[] {0, 1, 15, NONE}) {
            due(bench, NONE, "block", x, 0);
            due(bench, NONE, "block", 0, x);
            due(bench, NONE, "planned", x, 0);
            due(bench, NONE, "segment", x, 0);
            due(bench, NONE, "tripOf", x, 0);
            due(bench, NONE, "may", x, x);
            due(bench, NONE, "clash", x, x, NONE, 0);
            due(bench, -100, "saves", x, 0);
            due(bench, 0, "drop", x);
            due(bench, 0, "move", x, 0);
        }
        due(bench, NONE, "duty", 0, 0);
        due(bench, 0, "roster");
        for (int what = 0; what < 4; what++) {
            due(bench, NONE, "duty", 0, what);
        }
    }

    private static void noTripsAnyMore() {
        Bench bench = Bench.ofBusBlocks();
        Stories.dayWithRoster(bench);
        for (int t = 9; t >= 0; t--) {
            due(bench, 1, "drop", t);
        }
        noTrips(bench);
        bench = Bench.ofBusBlocks();
        Stories.fullDayWithRoster(bench);
        for (int left = 16; left > 0; left--) {
            due(bench, 1, "drop", 0);
        }
        noTrips(bench);
        due(bench, 0, "trip", 4, 5, 6, 7);
        due(bench, 4, "tripOf", 0, 0);
    }

    private static void oneTrip() {
        Bench bench = Bench.ofBusBlocks();
        due(bench, 0, "trip", 3, 3, 5, 25);
        due(bench, 1, "relief", 3, 1);
        int[] plan = {1, 0, 1, NONE, NONE};
        int[] planned = {0, NONE, NONE, 0};
        int[] segment = {0, 0, 0, 1};
        int[] duty = {0, 0, NONE, NONE};
        for (int what = 0; what < plan.length; what++) {
            due(bench, plan[what], "plan", what);
        }
        due(bench, 1, "roster");
        for (int what = 0; what < 4; what++) {
            due(bench, planned[what], "planned", 0, what);
            due(bench, segment[what], "segment", 0, what);
            due(bench, duty[what], "duty", 0, what);
        }
        due(bench, 0, "may", 0, 0);
        due(bench, 1, "goesOn");
        due(bench, 1, "apart");
        due(bench, 0, "block", 0, 0);
        due(bench, NONE, "block", 0, 1);
        due(bench, NONE, "block", 1, 0);
        due(bench, 0, "clash", 0, 0, NONE, 0);
        due(bench, NONE, "clash", 0, 0, 0, 0);
        due(bench, 0, "saves", 0, -5);
        due(bench, -100, "saves", 0, -6);
    }

    /** The last trip that is told begins the BLOCK, and each one behind it was told ahead of it. */
    private static void sixteenTripsInOneBlock() {
        Bench bench = Bench.ofBusBlocks();
        due(bench, 1, "way", 2, 1, 3, 1000);
        for (int t = 0; t < 16; t++) {
            due(bench, t, "trip", 1, 2, 20 * (15 - t), 20 * (15 - t) + 10);
        }
        due(bench, NONE, "trip", 1, 2, 0, 1);
        due(bench, 16, "about", 0);
        int[] plan = {1, 15000, 1, 7, 7};
        for (int what = 0; what < plan.length; what++) {
            due(bench, plan[what], "plan", what);
        }
        for (int t = 0; t < 16; t++) {
            due(bench, 15 - t, "block", 0, t);
            due(bench, 0, "planned", t, 0);
            due(bench, t == 0 ? NONE : t - 1, "planned", t, 1);
            due(bench, t == 0 ? NONE : 7, "planned", t, 2);
            due(bench, 0, "planned", t, 3);
        }
        due(bench, NONE, "block", 0, 16);
        due(bench, NONE, "block", 1, 0);
        int[] segment = {0, 15, 0, 16};
        for (int what = 0; what < segment.length; what++) {
            due(bench, segment[what], "segment", 0, what);
        }
        due(bench, 1, "goesOn");
        due(bench, 1, "apart");
        due(bench, -1, "saves", 15, 20);
        due(bench, 0, "saves", 15, 7);
        due(bench, -1, "saves", 15, 8);
        due(bench, 0, "saves", 0, 2569);
        due(bench, -100, "saves", 0, 2570);
        due(bench, 1, "roster");
        due(bench, 0, "duty", 0, 1);
        due(bench, NONE, "planned", 16, 0);
    }

    private static void sixteenBlocks() {
        Bench bench = Bench.ofBusBlocks();
        for (int t = 0; t < 16; t++) {
            due(bench, t, "trip", 0, 0, 15 - t, 100);
        }
        int[] plan = {16, 0, 16, NONE, NONE};
        for (int what = 0; what < plan.length; what++) {
            due(bench, plan[what], "plan", what);
        }
        for (int t = 0; t < 16; t++) {
            due(bench, t, "block", t, 0);
            due(bench, NONE, "block", t, 1);
            due(bench, t, "planned", t, 0);
            due(bench, NONE, "planned", t, 1);
            due(bench, t, "planned", t, 3);
            due(bench, t, "segment", t, 0);
            due(bench, t, "segment", t, 2);
        }
        due(bench, NONE, "block", 16, 0);
        due(bench, NONE, "segment", 16, 0);
        due(bench, 1, "goesOn");
        due(bench, 16, "apart");
        due(bench, 1, "saves", 15, 2779);
        due(bench, 0, "saves", 15, 99);
        due(bench, 1, "saves", 15, 100);
        due(bench, 0, "saves", 0, -15);
        due(bench, -2, "roster");
    }

    private static void dropEachOfSixteen() {
        for (int dropped = 0; dropped < 16; dropped++) {
            Bench bench = Bench.ofBusBlocks();
            for (int t = 0; t < 16; t++) {
                bench.ask("trip", t % 12, (t + 1) % 12, 10 * t, 10 * t + 5);
            }
            due(bench, 1, "drop", dropped);
            due(bench, 15, "about", 0);
            for (int t = 0; t < 15; t++) {
                int was = t < dropped ? t : t + 1;
                due(bench, was % 12, "tripOf", t, 0);
                due(bench, (was + 1) % 12, "tripOf", t, 1);
                due(bench, 10 * was, "tripOf", t, 2);
                due(bench, 10 * was + 5, "tripOf", t, 3);
            }
            due(bench, NONE, "tripOf", 15, 0);
            due(bench, 0, "drop", 15);
            due(bench, 15, "trip", 7, 8, 9, 10);
            due(bench, 7, "tripOf", 15, 0);
            due(bench, NONE, "trip", 7, 8, 9, 10);
        }
    }

    private static void sixteenAgainAndAgain() {
        Bench bench = Bench.ofBusBlocks();
        for (int again = 0; again < 10; again++) {
            for (int t = 0; t < 16; t++) {
                due(bench, t, "trip", 0, 0, t, t + 1);
            }
            due(bench, NONE, "trip", 0, 0, 0, 1);
            due(bench, 1, "plan", 0);
            for (int t = 15; t >= 0; t--) {
                due(bench, 1, "drop", t);
            }
            due(bench, 0, "plan", 0);
        }
    }

    private static void sixteenSegments() {
        Bench bench = Bench.ofBusBlocks();
        Stories.row(bench, 16);
        due(bench, 16, "plan", 2);
        for (int s = 0; s < 16; s++) {
            int[] want = {0, s, s, 1};
            for (int what = 0; what < 4; what++) {
                due(bench, want[what], "segment", s, what);
            }
            due(bench, s, "planned", s, 3);
            due(bench, s <= 13 ? 0 : 4, "clash", 0, s, NONE, 0);
        }
        due(bench, NONE, "segment", 16, 0);
        due(bench, NONE, "clash", 0, 16, NONE, 0);
        due(bench, 0, "clash", 0, 0, 15, 15);
        due(bench, NONE, "clash", 0, 0, 15, 16);
        due(bench, -2, "roster");
        due(bench, NONE, "duty", 0, 0);
    }

    private static void noSegment() {
        Bench bench = Bench.ofBusBlocks();
        for (int place = 0; place < 12; place++) {
            due(bench, 1, "relief", place, 1);
        }
        due(bench, 0, "plan", 2);
        due(bench, 0, "roster");
        due(bench, NONE, "duty", 0, 0);
        due(bench, 1, "laws", 1, 1, 600, 0);
        due(bench, 0, "roster");
        due(bench, NONE, "duty", 0, 0);
    }

    private static void twelveSegmentsOfOneBlock() {
        Bench bench = Bench.ofBusBlocks();
        Stories.row(bench, 12);
        due(bench, 12, "plan", 2);
        due(bench, 1, "roster");
        dutyDue(bench, 0, 0, 0, 1, 11);
        due(bench, NONE, "duty", 1, 0);
        due(bench, 1, "laws", 2880, 20, 30, 1);
        due(bench, 6, "roster");
        for (int i = 0; i < 6; i++) {
            dutyDue(bench, i, 2 * i, 2 * i, 2 * i + 1, 2 * i + 1);
        }
        due(bench, NONE, "duty", 6, 0);
        due(bench, 1, "laws", 2880, 10, 30, 1);
        due(bench, 12, "roster");
        for (int i = 0; i < 12; i++) {
            dutyDue(bench, i, i, i, NONE, NONE);
        }
        due(bench, NONE, "duty", 12, 0);
        due(bench, 1, "laws", 2880, 9, 30, 1);
        due(bench, NONE, "roster");
        due(bench, NONE, "duty", 0, 0);
        due(bench, 1, "laws", 450, 450, 600, 0);
        due(bench, 1, "roster");
        dutyDue(bench, 0, 0, 11, NONE, NONE);
    }

    /** Only who drives SEGMENT 0 can drive those of the second BLOCK, and only all of them. */
    private static void twelveSegmentsOfTwoBlocks() {
        Bench bench = Bench.ofBusBlocks();
        bench.ask("way", 0, 1, 0, 1);
        bench.ask("relief", 0, 1);
        bench.ask("relief", 1, 1);
        bench.ask("trip", 0, 0, 0, 10);
        for (int begin = 100; begin < 400; begin += 100) {
            bench.ask("trip", 0, 0, begin, begin + 100);
        }
        for (int begin = 50; begin < 130; begin += 10) {
            bench.ask("trip", 1, 1, begin, begin + 10);
        }
        due(bench, 2, "plan", 0);
        due(bench, 12, "plan", 2);
        due(bench, 1, "laws", 300, 300, 0, 1);
        due(bench, 2, "roster");
        dutyDue(bench, 0, 0, 0, 4, 11);
        dutyDue(bench, 1, 1, 1, 2, 3);
        due(bench, NONE, "duty", 2, 0);
        due(bench, 1, "laws", 130, 300, 0, 1);
        due(bench, 4, "roster");
        dutyDue(bench, 0, 0, 0, 4, 11);
        dutyDue(bench, 3, 3, 3, NONE, NONE);
        due(bench, 1, "laws", 129, 300, 0, 1);
        due(bench, 5, "roster");
        dutyDue(bench, 0, 0, 0, NONE, NONE);
        dutyDue(bench, 4, 4, 4, 5, 11);
    }

    private static void twelveSegmentsOfTwelveBlocks() {
        Bench bench = Bench.ofBusBlocks();
        for (int place = 0; place < 12; place++) {
            bench.ask("trip", place, place, 40 * place, 40 * place + 10);
        }
        due(bench, 12, "plan", 0);
        due(bench, 12, "roster");
        dutyDue(bench, 11, 11, 11, NONE, NONE);
        due(bench, NONE, "duty", 12, 0);
        // A bus is too slow for these WAYS, so BLOCKS stay; so is a driver.
        bench.ask("way", 0, 11, 431, 0);
        due(bench, 12, "roster");
        bench.ask("trip", 0, 0, 0, 10);
        due(bench, 13, "plan", 0);
        due(bench, -2, "roster");
        for (int i = 0; i < 13; i++) {
            due(bench, NONE, "duty", i, 0);
        }
        bench.ask("drop", 5);
        due(bench, 12, "roster");
        dutyDue(bench, 0, 0, 0, NONE, NONE);
    }

    /** One BLOCK from minute 0 to 610: eleven SEGMENTS of a trip each, the twelfth of five trips. */
    private static void twelveSegmentsOfSixteenTrips() {
        Bench bench = Bench.ofBusBlocks();
        Stories.row(bench, 11);
        for (int t = 11; t < 16; t++) {
            due(bench, t, "trip", t == 11 ? 0 : 1, t == 15 ? 0 : 1, 40 * t, 40 * t + 10);
        }
        due(bench, 1, "plan", 0);
        due(bench, 12, "plan", 2);
        due(bench, 5, "segment", 11, 3);
        due(bench, 1, "laws", 610, 580, 30, 1);
        due(bench, 1, "roster");
        dutyDue(bench, 0, 0, 0, 1, 11);
        due(bench, 1, "laws", 610, 579, 30, 1);
        due(bench, 2, "roster");
        dutyDue(bench, 0, 0, 0, NONE, NONE);
        dutyDue(bench, 1, 1, 1, 2, 11);
        due(bench, 1, "laws", 609, 580, 30, 1);
        due(bench, 2, "roster");
        due(bench, 1, "relief", 1, 1);
        due(bench, 16, "plan", 2);
        due(bench, -2, "roster");
        due(bench, 1, "relief", 1, 0);
        due(bench, 1, "drop", 12);
        due(bench, 12, "plan", 2);
        due(bench, 15, "trip", 0, 0, 700, 710);
        due(bench, 13, "plan", 2);
        due(bench, -2, "roster");
        due(bench, NONE, "duty", 0, 0);
    }

    private static void thirteenAndTwelve() {
        Bench bench = Bench.ofBusBlocks();
        Stories.row(bench, 13);
        twelveBehind(bench, "drop", 12);
        bench = Bench.ofBusBlocks();
        Stories.row(bench, 11);
        bench.ask("trip", 0, 1, 440, 450);
        bench.ask("trip", 1, 0, 480, 490);
        bench.ask("relief", 1, 1);
        twelveBehind(bench, "relief", 1, 0);
        thirteenBehind(bench, "relief", 1, 1);
        bench = withLastAtOtherPlace();
        bench.ask("way", 5, 6, 51, 0);
        twelveBehind(bench, "way", 5, 6, 50, 0);
        thirteenBehind(bench, "way", 5, 6, NONE, 0);
        bench = withLastAtOtherPlace();
        bench.ask("way", 5, 6, 51, 0);
        twelveBehind(bench, "move", 12, 1);
        thirteenBehind(bench, "move", 12, -1);
        bench = Bench.ofBusBlocks();
        Stories.row(bench, 12);
        thirteenBehind(bench, "trip", 7, 7, 0, 10);
        bench = Bench.ofBusBlocks();
        Stories.row(bench, 13);
        bench.ask("relief", 0, 0);
        due(bench, 1, "plan", 2);
        due(bench, 1, "roster");
        thirteenBehind(bench, "relief", 0, 1);
        due(bench, 1, "laws", 1, 1, 0, 0);
        due(bench, -2, "roster");
    }

    /** Trip 11 ends at place 5, no RELIEF, at 450; trip 12 begins at place 6 at 500. */
    private static Bench withLastAtOtherPlace() {
        Bench bench = Bench.ofBusBlocks();
        Stories.row(bench, 11);
        bench.ask("trip", 0, 5, 440, 450);
        bench.ask("trip", 6, 6, 500, 510);
        return bench;
    }

    private static void twelveBehind(Bench bench, String call, int... of) {
        due(bench, 13, "plan", 2);
        due(bench, -2, "roster");
        due(bench, NONE, "duty", 0, 0);
        due(bench, 1, call, of);
        due(bench, NONE, "duty", 0, 0);
        due(bench, 12, "plan", 2);
        due(bench, 1, "roster");
        dutyDue(bench, 0, 0, 0, 1, 11);
        due(bench, NONE, "duty", 1, 0);
    }

    private static void thirteenBehind(Bench bench, String call, int... of) {
        bench.ask("roster");
        due(bench, 0, "duty", 0, 0);
        due(Bench.text(call, of) + " is refused", bench.ask(call, of) <= 0, false);
        due(bench, NONE, "duty", 0, 0);
        due(bench, 13, "plan", 2);
        due(bench, -2, "roster");
        for (int i = 0; i < 13; i++) {
            due(bench, NONE, "duty", i, 0);
        }
    }

    private static void lastOfAllCalls() {
        Bench bench = Bench.ofBusBlocks();
        Stories.dayWithRoster(bench);
        while (bench.left() >= 16) {
            due(bench, 1, "move", 9, 1);
            due(bench, 501, "tripOf", 9, 2);
            due(bench, 51, "planned", 3, 2);
            due(bench, 3, "roster");
            due(bench, 1, "move", 9, -1);
            due(bench, NONE, "duty", 0, 0);
            due(bench, 50, "planned", 3, 2);
            due(bench, 3, "roster");
        }
        while (bench.left() > 1) {
            due(bench, 7, "plan", 1);
        }
        due(bench, 4, "duty", 0, 3);
        due("calls left", bench.left(), 0);
    }

    private static void dutyDue(Bench bench, int i, int... want) {
        for (int what = 0; what < 4; what++) {
            due(bench, want[what], "duty", i, what);
        }
    }
}
