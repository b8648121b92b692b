/**
 * What is kept till when: THE ROSTER till the next roster() or a change that is told; all else till it
 * is changed. That a refused call changes nothing stands in RangesTest, for each of them.
 */
public final class KeptTest extends Checks {
    private static final int[][] DUTIES = {{0, 0, 1, 4}, {5, 5, NONE, NONE}, {6, 6, 7, 7}};

    private KeptTest() {
    }

    public static void main(String[] args) {
        notBeforeItIsAsked();
        changesEndIt();
        refusedCallsKeepIt();
        questionsKeepIt();
        nextRoster();
        noneByTheLaws();
        tooMany();
        emptyRoster();
        lawsStay();
        objectsApart();
        end();
    }

    private static Bench day() {
        Bench bench = Bench.ofBusBlocks();
        Stories.dayWithRoster(bench);
        return bench;
    }

    private static void kept(Bench bench) {
        for (int i = 0; i < DUTIES.length; i++) {
            for (int what = 0; what < 4; what++) {
                due(bench, DUTIES[i][what], "duty", i, what);
            }
        }
        due(bench, NONE, "duty", DUTIES.length, 0);
    }

    private static void notKept(Bench bench) {
        for (int i = 0; i < DUTIES.length; i++) {
            for (int what = 0; what < 4; what++) {
                due(bench, NONE, "duty", i, what);
            }
        }
    }

    private static void askAll(Bench bench) {
        bench.ask("tripOf", 0, 0);
        bench.ask("may", 0, 1);
        bench.ask("goesOn");
        bench.ask("plan", 0);
        bench.ask("plan", 2);
        bench.ask("block", 0, 0);
        bench.ask("planned", 0, 3);
        bench.ask("segment", 0, 0);
        bench.ask("clash", 0, 0, 1, 1);
        bench.ask("clash", 0, 4, NONE, 0);
        bench.ask("apart");
        bench.ask("saves", 0, 1);
        bench.ask("saves", 9, 2349);
        bench.ask("about", 0);
    }

    private static void notBeforeItIsAsked() {
        Bench bench = Bench.ofBusBlocks();
        notKept(bench);
        Stories.day(bench);
        notKept(bench);
        askAll(bench);
        notKept(bench);
        due(bench, 3, "roster");
        kept(bench);
    }

    /** Each is told true or a number; some change nothing, or nothing that a DUTY could feel. */
    private static void changesEndIt() {
        ended(3, "way", 0, 3, 20, 7);
        ended(3, "way", 0, 3, 20, 8);
        ended(3, "way", 8, 9, 600, 1000);
        ended(3, "way", 8, 9, NONE, 0);
        ended(3, "relief", 0, 1);
        ended(3, "relief", 11, 1);
        ended(3, "relief", 11, 0);
        ended(4, "trip", 11, 11, 0, 1);
        ended(3, "drop", 9);
        ended(3, "move", 0, 0);
        ended(3, "move", 9, 1);
        ended(3, "laws", 901, 541, 31, 1);
        ended(3, "laws", 901, 541, 31, 0);
    }

    private static void ended(int duties, String call, int... of) {
        Bench bench = day();
        kept(bench);
        int answer = bench.ask(call, of);
        due(Bench.text(call, of) + " is refused", call.equals("trip") ? answer == NONE : answer == 0, false);
        notKept(bench);
        askAll(bench);
        notKept(bench);
        due(bench, duties, "roster");
        due(bench, 0, "duty", 0, 0);
        due(bench, NONE, "duty", duties, 0);
    }

    private static void refusedCallsKeepIt() {
        Bench bench = day();
        for (int again = 0; again < 2; again++) {
            due(bench, 0, "way", 3, 3, 0, 0);
            due(bench, 0, "way", 0, 3, NONE, 1001);
            due(bench, 0, "way", 0, 3, 601, 0);
            due(bench, 0, "relief", 12, 1);
            due(bench, 0, "relief", NONE, 0);
            due(bench, NONE, "trip", 0, 0, 5, 5);
            due(bench, NONE, "trip", 0, 12, 5, 6);
            due(bench, 0, "drop", 10);
            due(bench, 0, "drop", NONE);
            due(bench, 0, "move", 0, -101);
            due(bench, 0, "move", 0, 2750);
            due(bench, 0, "move", 10, 0);
            due(bench, 0, "laws", 0, 540, 30, 1);
            due(bench, 0, "laws", 900, 2881, 30, 1);
            due(bench, 0, "laws", 900, 540, 601, 0);
            due(bench, NONE, "duty", NONE, 0);
            due(bench, NONE, "duty", 0, 4);
            kept(bench);
        }
        bench = Bench.ofBusBlocks();
        Stories.fullDayWithRoster(bench);
        due(bench, 4, "duty", 0, 3);
        due(bench, NONE, "trip", 11, 11, 100, 110);
        due(bench, 4, "duty", 0, 3);
        due(bench, 8, "duty", 3, 0);
    }

    private static void questionsKeepIt() {
        Bench bench = day();
        askAll(bench);
        kept(bench);
        askAll(bench);
        kept(bench);
    }

    private static void nextRoster() {
        Bench bench = day();
        due(bench, 3, "roster");
        kept(bench);
        due(bench, 3, "roster");
        due(bench, 3, "roster");
        kept(bench);
        due(bench, 1, "laws", 901, 541, 71, 1);
        notKept(bench);
        due(bench, 3, "roster");
        int[] first = {0, 4, NONE, NONE};
        for (int what = 0; what < 4; what++) {
            due(bench, first[what], "duty", 0, what);
        }
        due(bench, 1, "laws", 901, 541, 31, 1);
        notKept(bench);
        due(bench, 3, "roster");
        kept(bench);
    }

    private static void noneByTheLaws() {
        Bench bench = day();
        due(bench, 1, "laws", 901, 29, 31, 1);
        notKept(bench);
        due(bench, NONE, "roster");
        notKept(bench);
        due(bench, NONE, "roster");
        due(bench, 0, "laws", 901, 0, 31, 1);
        notKept(bench);
        due(bench, 1, "laws", 901, 541, 31, 1);
        notKept(bench);
        due(bench, 3, "roster");
        kept(bench);
    }

    private static void tooMany() {
        Bench bench = day();
        for (int place = 6; place < 11; place++) {
            due(bench, place + 4, "trip", place, place, 0, 10);
        }
        due(bench, 13, "plan", 2);
        notKept(bench);
        due(bench, -2, "roster");
        notKept(bench);
        due(bench, -2, "roster");
        due(bench, NONE, "trip", 0, 0, 1, 1);
        notKept(bench);
        due(bench, 1, "drop", 14);
        notKept(bench);
        due(bench, 7, "roster");
        for (int i = 0; i < DUTIES.length; i++) {
            for (int what = 0; what < 4; what++) {
                due(bench, DUTIES[i][what], "duty", i, what);
            }
        }
        due(bench, 11, "duty", 6, 0);
        due(bench, NONE, "duty", 7, 0);
    }

    private static void emptyRoster() {
        Bench bench = Bench.ofBusBlocks();
        due(bench, 0, "roster");
        due(bench, NONE, "duty", 0, 0);
        due(bench, 0, "trip", 0, 0, 0, 1);
        due(bench, NONE, "duty", 0, 0);
        due(bench, 1, "roster");
        due(bench, 0, "duty", 0, 0);
        due(bench, 1, "drop", 0);
        due(bench, NONE, "duty", 0, 0);
        due(bench, 0, "roster");
        due(bench, NONE, "duty", 0, 0);
    }

    /** LAWS, WAYS and RELIEF stay what they are where trips come and go. */
    private static void lawsStay() {
        Bench bench = day();
        for (int left = 10; left > 0; left--) {
            due(bench, 1, "drop", left - 1);
        }
        due(bench, 901, "about", 1);
        due(bench, 541, "about", 2);
        due(bench, 31, "about", 3);
        due(bench, 1, "about", 4);
        due(bench, 0, "trip", 2, 0, 0, 10);
        due(bench, 1, "trip", 3, 2, 30, 40);
        due(bench, 2, "trip", 2, 2, 50, 60);
        due(bench, 1, "plan", 0);
        due(bench, 7, "plan", 1);
        due(bench, 3, "plan", 2);
        due(bench, 0, "plan", 4);
    }

    private static void objectsApart() {
        Bench one = day();
        Bench other = Bench.ofBusBlocks();
        notKept(other);
        due(other, 0, "about", 0);
        due(other, 900, "about", 1);
        due(other, 0, "roster");
        due(other, 1, "way", 0, 3, 1, 1);
        due(other, 1, "relief", 0, 0);
        due(other, 0, "trip", 0, 0, 0, 10);
        due(other, 1, "trip", 3, 3, 11, 20);
        due(other, 1, "laws", 1, 2, 3, 0);
        due(other, 1, "plan", 1);
        kept(one);
        due(one, 7, "plan", 1);
        due(one, 901, "about", 1);
        due(one, 10, "about", 0);
        due(one, 3, "roster");
        due(other, NONE, "roster");
        kept(one);
        notKept(other);
    }
}
