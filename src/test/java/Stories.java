import java.util.function.Consumer;

/** Days that more than one test begins with. */
final class Stories {
    private Stories() {
    }

    static Consumer<Bench> then(Consumer<Bench> story, String call, int... of) {
        return story.andThen(bench -> bench.ask(call, of));
    }

    static void nothing(Bench bench) {
        // A new object.
    }

    /**
     * Ten trips in three BLOCKS: trips 0 to 3 and then 9, trips 4 to 6, trips 7 and 8. SEGMENTS 0 to 4
     * are of the first BLOCK, a trip each; 5 has the second BLOCK's trips; 6 and 7 are of the third.
     */
    static void day(Bench bench) {
        bench.ask("way", 0, 3, 20, 7);
        bench.ask("way", 5, 6, 600, 1000);
        bench.ask("relief", 0, 1);
        bench.ask("relief", 2, 1);
        for (int begin = 100; begin <= 400; begin += 100) {
            bench.ask("trip", 0, 0, begin, begin + 30);
        }
        for (int begin = 100; begin <= 180; begin += 40) {
            bench.ask("trip", 1, 1, begin, begin + 30);
        }
        bench.ask("trip", 2, 2, 500, 530);
        bench.ask("trip", 2, 2, 600, 630);
        bench.ask("trip", 3, 3, 500, 530);
        bench.ask("laws", 901, 541, 31, 1);
    }

    /** The day with THE ROSTER kept: SEGMENT 0 and 1 to 4; 5; 6 and 7. */
    static void dayWithRoster(Bench bench) {
        day(bench);
        bench.ask("roster");
    }

    /** The same with six trips more at a place of their own, one behind the other: 16 trips. */
    static void fullDayWithRoster(Bench bench) {
        day(bench);
        for (int begin = 0; begin < 60; begin += 10) {
            bench.ask("trip", 11, 11, begin, begin + 10);
        }
        bench.ask("roster");
    }

    /** Trips of ten minutes at place 0, a RELIEF, one behind the other: as many SEGMENTS of one BLOCK. */
    static void row(Bench bench, int trips) {
        bench.ask("relief", 0, 1);
        for (int t = 0; t < trips; t++) {
            bench.ask("trip", 0, 0, 40 * t, 40 * t + 10);
        }
    }
}
