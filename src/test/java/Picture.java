import java.util.ArrayList;
import java.util.List;
import java.util.function.Consumer;
import java.util.function.Supplier;

/**
 * All that calls can tell of a bench behind a story of calls, WAYS and RELIEF too. As one object is
 * asked for 512 calls at most, each part is asked of a new bench with the same story.
 */
final class Picture {
    private static final int TRIPS = 16;
    private static final int PLACES = 12;
    private static final int DUTIES = 12;
    private static final int NO_PIECE = -1;

    private final Supplier<Bench> maker;
    private final Consumer<Bench> story;
    private final List<String> rows = new ArrayList<>();
    private Bench bench = null;

    private Picture(Supplier<Bench> maker, Consumer<Bench> story) {
        this.maker = maker;
        this.story = story;
    }

    static List<String> of(Supplier<Bench> maker, Consumer<Bench> story) {
        Picture it = new Picture(maker, story);
        it.numbers();
        it.byTrips("block");
        it.byTrips("may");
        it.pieces();
        it.moves();
        it.ways(0, PLACES / 2);
        it.ways(PLACES / 2, PLACES);
        it.reliefs();
        return it.rows;
    }

    private void start() {
        bench = maker.get();
        story.accept(bench);
    }

    private void row(String call, int... of) {
        rows.add(Bench.text(call, of) + " = " + bench.ask(call, of));
    }

    // What is kept of THE ROSTER is asked ahead of all, so that no other question can bring it about.
    private void numbers() {
        start();
        rowsOf("duty", DUTIES + 1, 4);
        for (int what = 0; what < 5; what++) {
            row("about", what);
            row("plan", what);
        }
        row("goesOn");
        row("apart");
        rowsOf("tripOf", TRIPS, 4);
        rowsOf("planned", TRIPS, 4);
        rowsOf("segment", TRIPS, 4);
        row("roster");
        rowsOf("duty", DUTIES, 4);
    }

    private void rowsOf(String call, int numbers, int whats) {
        for (int i = 0; i < numbers; i++) {
            for (int what = 0; what < whats; what++) {
                row(call, i, what);
            }
        }
    }

    private void byTrips(String call) {
        start();
        rowsOf(call, TRIPS, TRIPS);
    }

    private void pieces() {
        start();
        for (int a = 0; a < TRIPS; a++) {
            row("clash", a, a + 1, NO_PIECE, 0);
            for (int c = 0; c < TRIPS; c++) {
                row("clash", a, a, c, c);
            }
        }
    }

    private void moves() {
        start();
        for (int t = 0; t < TRIPS; t++) {
            for (int minutes = -200; minutes <= 200; minutes += 50) {
                row("saves", t, minutes);
            }
        }
    }

    private void startWithoutTrips() {
        start();
        while (bench.ask("drop", 0) == 1) {
            continue;
        }
    }

    /** WAYS from some places to all: two trips tell one WAY's minutes by the SLACK. */
    private void ways(int first, int behind) {
        startWithoutTrips();
        for (int a = first; a < behind; a++) {
            bench.ask("trip", a, a, 0, 10);
            for (int b = 0; b < PLACES; b++) {
                bench.ask("trip", b, b, 2000, 2010);
                rows.add("WAY from " + a + " to " + b + ": price " + bench.ask("plan", 1)
                    + ", slack " + bench.ask("plan", 3));
                bench.ask("drop", 1);
            }
            bench.ask("drop", 0);
        }
    }

    private void reliefs() {
        startWithoutTrips();
        for (int p = 0; p < PLACES; p++) {
            bench.ask("trip", p, p, 0, 10);
            bench.ask("trip", p, p, 10, 20);
            rows.add("RELIEF at " + p + ": segments " + bench.ask("plan", 2));
            bench.ask("drop", 1);
            bench.ask("drop", 0);
        }
    }
}
