/** Each promise of the document by hand: ordinary inputs, the edges that it names, wrong inputs. */
public final class PromisesTest extends Checks {
    private PromisesTest() {
    }

    public static void main(String[] args) {
        newObject();
        way();
        relief();
        trip();
        drop();
        move();
        laws();
        tripOf();
        may();
        goesOn();
        planFewestThenCheapest();
        planLeastNexts();
        planSlack();
        block();
        planned();
        segment();
        clashPieces();
        clashLaws();
        clashOrder();
        roster();
        rosterLeast();
        rosterKept();
        rosterLimit();
        duty();
        apart();
        saves();
        about();
        end();
    }

    /** Trips at one place, each from the first minute to the second one. */
    private static BusBlocks atOnePlace(int... minutes) {
        BusBlocks x = new BusBlocks();
        for (int i = 0; i + 1 < minutes.length; i += 2) {
            x.trip(0, 0, minutes[i], minutes[i + 1]);
        }
        return x;
    }

    private static void newObject() {
        BusBlocks x = new BusBlocks();
        due("1 trips", x.about(0), 0);
        due("1 spread", x.about(1), 900);
        due("1 work", x.about(2), 540);
        due("1 break", x.about(3), 30);
        due("1 two", x.about(4), 1);
        due("1 plan blocks", x.plan(0), 0);
        due("1 plan price", x.plan(1), 0);
        due("1 plan segments", x.plan(2), 0);
        due("1 roster not yet", x.duty(0, 0), NONE);
        for (int a = 0; a < 12; a++) {
            BusBlocks y = new BusBlocks();
            y.trip(a, a, 0, 10);
            for (int b = 0; b < 12; b++) {
                y.trip(b, b, 10, 20);
                due("1 way " + a + " to " + b, y.may(0, b + 1), a == b ? 1 : 0);
            }
        }
        BusBlocks z = new BusBlocks();
        for (int p = 0; p < 12; p++) {
            z.trip(p, p, 0, 10);
            z.trip(p, p, 10, 20);
            due("1 price and relief at " + p, z.plan(1) * 10 + z.plan(2), 1);
            z.drop(1);
            z.drop(0);
        }
    }

    private static void way() {
        BusBlocks x = new BusBlocks();
        x.trip(0, 1, 0, 10);
        x.trip(2, 3, 610, 620);
        due("2 no way yet", x.may(0, 1), 0);
        due("2 most minutes and price", x.way(1, 2, 600, 1000), true);
        due("2 there", x.may(0, 1), 1);
        due("2 its price", x.plan(1), 1000);
        due("2 not back", x.way(2, 1, 601, 0), false);
        due("2 price above", x.way(1, 2, 5, 1001), false);
        due("2 price below", x.way(1, 2, 5, -1), false);
        due("2 minutes below", x.way(1, 2, -2, 0), false);
        due("2 unchanged price", x.plan(1), 1000);
        due("2 unchanged slack", x.plan(3), 0);
        due("2 least", x.way(1, 2, 0, 0), true);
        due("2 slack now", x.plan(3), 600);
        due("2 price now", x.plan(1), 0);
        due("2 none with a wrong price", x.way(1, 2, NONE, 1001), false);
        due("2 none with a wrong price below", x.way(1, 2, NONE, -1), false);
        due("2 still there", x.may(0, 1), 1);
        due("2 none", x.way(1, 2, NONE, 7), true);
        due("2 gone", x.may(0, 1), 0);
        due("2 none again", x.way(1, 2, NONE, 1000), true);
        due("2 to itself", x.way(1, 1, 0, 0), false);
        due("2 none to itself", x.way(1, 1, NONE, 0), false);
        due("2 last places", x.way(11, 0, 1, 1), true);
        due("2 place above", x.way(0, 12, 1, 1), false);
        due("2 place above first", x.way(12, 0, 1, 1), false);
        due("2 place below", x.way(-1, 0, 1, 1), false);
        due("2 place below second", x.way(0, -1, 1, 1), false);
        due("2 far off", x.way(MAX, MIN, 1, 1), false);
        due("2 far off minutes", x.way(0, 1, MAX, 1), false);
        due("2 far off price", x.way(0, 1, 1, MIN), false);
    }

    private static void relief() {
        BusBlocks x = atOnePlace(0, 10, 10, 20, 20, 30);
        due("3 one segment", x.plan(2), 1);
        due("3 relief", x.relief(0, true), true);
        due("3 three segments", x.plan(2), 3);
        due("3 other place", x.relief(11, true), true);
        due("3 still three", x.plan(2), 3);
        due("3 again", x.relief(0, true), true);
        due("3 not any more", x.relief(0, false), true);
        due("3 one again", x.plan(2), 1);
        due("3 above", x.relief(12, true), false);
        due("3 below", x.relief(-1, false), false);
        due("3 far off", x.relief(MAX, true), false);
        due("3 far below", x.relief(MIN, true), false);
    }

    private static void trip() {
        BusBlocks x = new BusBlocks();
        due("4 whole day", x.trip(0, 11, 0, 2879), 0);
        due("4 shortest", x.trip(11, 11, 2878, 2879), 1);
        due("4 no length", x.trip(0, 0, 5, 5), NONE);
        due("4 backwards", x.trip(0, 0, 6, 5), NONE);
        due("4 begins below", x.trip(0, 0, -1, 5), NONE);
        due("4 ends above", x.trip(0, 0, 5, 2880), NONE);
        due("4 begins above", x.trip(0, 0, 2879, 2880), NONE);
        due("4 far off", x.trip(0, 0, MIN, MAX), NONE);
        due("4 from above", x.trip(12, 0, 0, 5), NONE);
        due("4 to above", x.trip(0, 12, 0, 5), NONE);
        due("4 from below", x.trip(-1, 0, 0, 5), NONE);
        due("4 to below", x.trip(0, -1, 0, 5), NONE);
        due("4 two of them", x.about(0), 2);
        for (int t = 2; t < 16; t++) {
            due("4 trip " + t, x.trip(1, 2, t, t + 1), t);
        }
        due("4 full", x.trip(1, 2, 0, 1), NONE);
        due("4 sixteen", x.about(0), 16);
        x.drop(3);
        due("4 room again", x.trip(1, 2, 0, 1), 15);
    }

    private static void drop() {
        BusBlocks x = atOnePlace(0, 10, 20, 30, 40, 50, 60, 70);
        due("5 above", x.drop(4), false);
        due("5 below", x.drop(-1), false);
        due("5 far off", x.drop(MAX), false);
        due("5 far below", x.drop(MIN), false);
        due("5 middle", x.drop(1), true);
        due("5 three", x.about(0), 3);
        due("5 first stays", x.tripOf(0, 2), 0);
        due("5 one forward", x.tripOf(1, 2), 40);
        due("5 one forward too", x.tripOf(2, 3), 70);
        due("5 none left there", x.tripOf(3, 2), NONE);
        due("5 slack", x.plan(3), 30);
        BusBlocks y = new BusBlocks();
        y.trip(1, 2, 3, 4);
        y.trip(5, 6, 7, 8);
        y.drop(0);
        for (int what = 0; what < 4; what++) {
            due("5 all of it comes forward " + what, y.tripOf(0, what), 5 + what);
        }
        due("5 last", x.drop(2), true);
        due("5 first", x.drop(0), true);
        due("5 only one", x.tripOf(0, 2), 40);
        due("5 it too", x.drop(0), true);
        due("5 no more", x.drop(0), false);
        due("5 no blocks", x.plan(0), 0);
    }

    private static void move() {
        BusBlocks x = atOnePlace(10, 20, 100, 120);
        due("6 too early", x.move(0, -11), false);
        due("6 to the first minute", x.move(0, -10), true);
        due("6 begins", x.tripOf(0, 2), 0);
        due("6 ends", x.tripOf(0, 3), 10);
        due("6 too late", x.move(0, 2870), false);
        due("6 to the last minute", x.move(0, 2869), true);
        due("6 ends there", x.tripOf(0, 3), 2879);
        due("6 begins there", x.tripOf(0, 2), 2869);
        due("6 followed no more", x.may(0, 1), 0);
        due("6 follows now", x.may(1, 0), 1);
        due("6 not at all", x.move(1, 0), true);
        due("6 no trip", x.move(2, 0), false);
        due("6 no trip below", x.move(-1, 0), false);
        due("6 far off", x.move(1, MAX), false);
        due("6 far below", x.move(1, MIN), false);
        due("6 stays", x.tripOf(1, 2) * 1000 + x.tripOf(1, 3), 100120);
    }

    private static void laws() {
        BusBlocks x = new BusBlocks();
        int[][] good = {{1, 1, 0, 0}, {2880, 2880, 600, 1}, {7, 8, 9, 1}};
        for (int[] g : good) {
            due("7 good", x.laws(g[0], g[1], g[2], g[3] == 1), true);
            for (int i = 0; i < 4; i++) {
                due("7 told " + i, x.about(i + 1), g[i]);
            }
        }
        int[][] bad = {{0, 1, 1}, {2881, 1, 1}, {1, 0, 1}, {1, 2881, 1}, {1, 1, -1}, {1, 1, 601},
            {MIN, 1, 1}, {1, MAX, 1}, {1, 1, MIN}, {1, 1, MAX}};
        for (int[] b : bad) {
            due("7 bad", x.laws(b[0], b[1], b[2], false), false);
            due("7 unchanged spread", x.about(1), 7);
            due("7 unchanged work", x.about(2), 8);
            due("7 unchanged break", x.about(3), 9);
            due("7 unchanged two", x.about(4), 1);
        }
    }

    private static void tripOf() {
        BusBlocks x = new BusBlocks();
        x.trip(3, 4, 50, 60);
        x.trip(5, 5, 70, 90);
        int[] want = {3, 4, 50, 60, 5, 5, 70, 90};
        for (int i = 0; i < 8; i++) {
            due("8 trip " + i / 4 + " what " + i % 4, x.tripOf(i / 4, i % 4), want[i]);
        }
        due("8 what above", x.tripOf(0, 4), NONE);
        due("8 what below", x.tripOf(0, -1), NONE);
        due("8 no trip", x.tripOf(2, 0), NONE);
        due("8 no trip below", x.tripOf(-1, 0), NONE);
        due("8 far off", x.tripOf(MIN, MAX), NONE);
    }

    private static void may() {
        BusBlocks x = new BusBlocks();
        x.way(1, 2, 15, 0);
        x.trip(0, 1, 0, 10);
        x.trip(2, 0, 25, 40);
        x.trip(2, 0, 24, 40);
        x.trip(1, 0, 10, 20);
        x.trip(3, 0, 100, 120);
        due("9 just so", x.may(0, 1), 1);
        due("9 a minute short", x.may(0, 2), 0);
        due("9 same place at once", x.may(0, 3), 1);
        due("9 no way", x.may(0, 4), 0);
        due("9 not back", x.may(1, 0), 0);
        due("9 not itself", x.may(0, 0), 0);
        due("9 no trip", x.may(0, 5), NONE);
        due("9 no trip first", x.may(5, 0), NONE);
        due("9 below", x.may(-1, 0), NONE);
        due("9 below second", x.may(0, MIN), NONE);
        due("9 far off", x.may(MAX, MAX), NONE);
    }

    private static void goesOn() {
        BusBlocks x = new BusBlocks();
        due("10 none", x.goesOn(), 1);
        x.way(1, 2, 0, 0);
        x.way(3, 4, 0, 0);
        x.trip(0, 1, 0, 10);
        due("10 one", x.goesOn(), 1);
        x.trip(2, 3, 10, 20);
        due("10 two", x.goesOn(), 1);
        x.trip(4, 5, 20, 30);
        due("10 no way from the first to the third", x.goesOn(), 0);
        x.way(1, 4, 11, 0);
        due("10 too long a way", x.goesOn(), 0);
        x.way(1, 4, 10, 0);
        due("10 a way", x.goesOn(), 1);
        x.drop(1);
        due("10 without the middle", x.goesOn(), 1);
    }

    private static void planFewestThenCheapest() {
        BusBlocks x = new BusBlocks();
        x.way(1, 2, 0, 1000);
        x.way(1, 3, 0, 1);
        x.way(4, 3, 0, 900);
        x.trip(0, 1, 0, 10);
        x.trip(0, 4, 0, 10);
        x.trip(2, 0, 20, 30);
        x.trip(3, 0, 20, 30);
        due("11 fewest go ahead of price", x.plan(0), 2);
        due("11 price", x.plan(1), 1900);
        x.way(4, 2, 0, 5);
        due("11 cheapest of fewest", x.plan(1), 6);
        due("11 fewest", x.plan(0), 2);
        due("11 next", x.planned(0, 1), 3);
        due("11 none above", x.plan(5), NONE);
        due("11 none below", x.plan(-1), NONE);
        due("11 far off", x.plan(MAX), NONE);
        due("11 far below", x.plan(MIN), NONE);
        x.way(4, 3, NONE, 0);
        x.way(4, 2, NONE, 0);
        due("11 one can't go on", x.plan(0), 3);
        due("11 so the cheap one", x.plan(1), 1);
    }

    private static void planLeastNexts() {
        BusBlocks x = atOnePlace(30, 40, 0, 10, 10, 20, 50, 60, 0, 5);
        // 1 and 4 begin; the first trip wants the only one behind it, then trip 1 wants 0.
        due("11 blocks", x.plan(0), 2);
        due("11 trip 0", x.planned(0, 1), 3);
        due("11 trip 1", x.planned(1, 1), 0);
        due("11 trip 2 is last, as 0 and 3 are taken", x.planned(2, 1), NONE);
        due("11 trip 4", x.planned(4, 1), 2);
        BusBlocks y = atOnePlace(0, 10, 10, 20, 10, 20, 20, 30);
        due("11 the least follows", y.planned(0, 1), 1);
        due("11 trip 1 goes on, trip 2 not", y.planned(1, 1), 3);
        due("11 trip 2 is its own block", y.planned(2, 1), NONE);
        due("11 its number", y.planned(2, 0), 1);
        // None counts as the highest: trip 0 goes on, though trip 1 could as well.
        BusBlocks z = atOnePlace(0, 10, 0, 10, 10, 20);
        due("11 followed", z.planned(0, 1), 2);
        due("11 not followed", z.planned(1, 1), NONE);
    }

    private static void planSlack() {
        BusBlocks x = new BusBlocks();
        due("11 greatest without", x.plan(3), NONE);
        due("11 least without", x.plan(4), NONE);
        x.way(0, 1, 5, 0);
        x.trip(0, 0, 0, 10);
        due("11 greatest of one", x.plan(3), NONE);
        due("11 least of one", x.plan(4), NONE);
        x.trip(1, 0, 15, 20);
        due("11 no slack is 0", x.plan(3), 0);
        due("11 least no slack", x.plan(4), 0);
        x.trip(1, 0, 32, 40);
        x.trip(0, 0, 60, 70);
        due("11 greatest", x.plan(3), 20);
        due("11 least", x.plan(4), 0);
        x.drop(0);
        due("11 greatest now", x.plan(3), 20);
        due("11 least now", x.plan(4), 7);
    }

    private static void block() {
        BusBlocks x = atOnePlace(30, 40, 0, 10, 20, 30, 5, 15);
        // Trip 1 is followed by the least that it can be, so trip 3 by trip 2.
        int[][] want = {{1, 0, NONE, NONE}, {3, 2, NONE, NONE}, {NONE, NONE, NONE, NONE}};
        for (int b = 0; b < 3; b++) {
            for (int i = 0; i < 4; i++) {
                due("12 block " + b + " trip " + i, x.block(b, i), want[b][i]);
            }
        }
        due("12 below", x.block(-1, 0), NONE);
        due("12 trip below", x.block(0, -1), NONE);
        due("12 far off", x.block(MAX, MAX), NONE);
        due("12 far below", x.block(MIN, MIN), NONE);
        due("12 far off trip", x.block(0, MAX), NONE);
        due("12 trip far below", x.block(1, MIN), NONE);
        due("12 none", new BusBlocks().block(0, 0), NONE);
        // The block with the lesser first trip comes first, though the other has the least trip.
        BusBlocks y = new BusBlocks();
        y.trip(1, 1, 50, 60);
        y.trip(2, 2, 30, 40);
        y.trip(1, 1, 10, 20);
        due("12 first block", y.block(0, 0), 1);
        due("12 second block", y.block(1, 0), 2);
        due("12 its second trip", y.block(1, 1), 0);
    }

    private static void planned() {
        BusBlocks x = new BusBlocks();
        x.way(1, 0, 3, 0);
        x.relief(1, true);
        x.trip(0, 1, 0, 10);
        x.trip(5, 6, 0, 10);
        x.trip(0, 0, 15, 20);
        x.trip(0, 0, 20, 30);
        int[][] want = {{0, 2, 2, 0}, {1, NONE, NONE, 2}, {0, 3, 0, 1}, {0, NONE, NONE, 1}};
        for (int t = 0; t < 4; t++) {
            for (int what = 0; what < 4; what++) {
                due("13 trip " + t + " what " + what, x.planned(t, what), want[t][what]);
            }
        }
        due("13 what above", x.planned(0, 4), NONE);
        due("13 what below", x.planned(0, -1), NONE);
        due("13 no trip", x.planned(4, 0), NONE);
        due("13 below", x.planned(-1, 0), NONE);
        due("13 far off", x.planned(MAX, MIN), NONE);
    }

    private static void segment() {
        BusBlocks x = new BusBlocks();
        x.relief(1, true);
        x.trip(0, 0, 0, 10);
        x.trip(0, 1, 10, 20);
        x.trip(1, 1, 20, 30);
        x.trip(1, 2, 30, 40);
        x.trip(2, 3, 40, 50);
        x.trip(7, 1, 0, 50);
        // A block that ends at a RELIEF has no empty segment behind it.
        int[][] want = {{0, 0, 1, 2}, {0, 2, 2, 1}, {0, 3, 4, 2}, {1, 5, 5, 1}};
        for (int s = 0; s < 4; s++) {
            for (int what = 0; what < 4; what++) {
                due("14 segment " + s + " what " + what, x.segment(s, what), want[s][what]);
            }
        }
        due("14 how many", x.plan(2), 4);
        due("14 none such", x.segment(4, 0), NONE);
        due("14 below", x.segment(-1, 0), NONE);
        due("14 what above", x.segment(0, 4), NONE);
        due("14 what below", x.segment(0, -1), NONE);
        due("14 far off", x.segment(MAX, 0), NONE);
        due("14 far below", x.segment(MIN, MIN), NONE);
    }

    private static void clashPieces() {
        BusBlocks x = atOnePlace(0, 10, 50, 60, 100, 110);
        x.trip(1, 1, 200, 210);
        x.relief(0, true);
        due("15 one", x.clash(0, 0, NONE, 0), 0);
        due("15 one, whatever d", x.clash(0, 2, NONE, MAX), 0);
        due("15 one, d below", x.clash(0, 2, NONE, MIN), 0);
        due("15 backwards", x.clash(1, 0, NONE, NONE), NONE);
        due("15 two blocks", x.clash(2, 3, NONE, NONE), NONE);
        due("15 no segment", x.clash(3, 4, NONE, NONE), NONE);
        due("15 no segments", x.clash(4, 4, NONE, NONE), NONE);
        due("15 below", x.clash(-1, 0, NONE, NONE), NONE);
        due("15 c below none", x.clash(0, 0, -2, 1), NONE);
        due("15 c above", x.clash(0, 0, 4, 4), NONE);
        due("15 d above", x.clash(0, 0, 3, 4), NONE);
        due("15 d below c", x.clash(0, 0, 2, 1), NONE);
        due("15 c and d of two blocks", x.clash(0, 0, 2, 3), NONE);
        due("15 in common", x.clash(0, 1, 1, 2), NONE);
        due("15 in common, other way", x.clash(1, 2, 0, 1), NONE);
        due("15 within", x.clash(0, 2, 1, 1), NONE);
        due("15 the same", x.clash(1, 1, 1, 1), NONE);
        due("15 one behind the other", x.clash(0, 0, 1, 2), 0);
        due("15 with a gap", x.clash(0, 0, 2, 2), 0);
        due("15 far off", x.clash(MAX, MAX, MAX, MAX), NONE);
        due("15 far below", x.clash(0, 0, MIN, MIN), NONE);
        x.laws(900, 540, 30, false);
        due("15 no pieces go ahead of laws", x.clash(0, 1, 1, 2), NONE);
        due("15 none at all", new BusBlocks().clash(0, 0, NONE, NONE), NONE);
    }

    private static void clashLaws() {
        BusBlocks x = atOnePlace(0, 100, 130, 200, 230, 300);
        x.relief(0, true);
        due("15 all kept", x.clash(0, 0, 1, 1), 0);
        x.laws(900, 540, 31, true);
        due("15 break a minute short", x.clash(0, 0, 1, 1), 2);
        due("15 no break in one piece", x.clash(0, 1, NONE, NONE), 0);
        x.laws(200, 540, 30, true);
        due("15 spread just so", x.clash(0, 0, 1, 1), 0);
        due("15 spread of one just so", x.clash(0, 1, NONE, NONE), 0);
        x.laws(199, 540, 30, true);
        due("15 spread", x.clash(0, 0, 1, 1), 3);
        due("15 spread of one", x.clash(0, 1, NONE, NONE), 3);
        x.laws(200, 170, 30, true);
        due("15 work just so, the break is none", x.clash(0, 0, 1, 1), 0);
        due("15 work of one counts what is between", x.clash(0, 1, NONE, NONE), 4);
        x.laws(200, 169, 30, true);
        due("15 work", x.clash(0, 0, 1, 1), 4);
        x.laws(199, 1, 31, false);
        due("15 first law", x.clash(0, 0, 1, 1), 1);
        x.laws(199, 1, 31, true);
        due("15 second law", x.clash(0, 0, 1, 1), 2);
        x.laws(199, 1, 30, true);
        due("15 third law", x.clash(0, 0, 1, 1), 3);
        due("15 third law of one", x.clash(0, 1, NONE, NONE), 3);
    }

    private static void clashOrder() {
        BusBlocks x = new BusBlocks();
        x.trip(1, 2, 100, 150);
        x.trip(3, 4, 0, 60);
        due("15 two blocks", x.plan(0), 2);
        due("15 no way", x.clash(0, 0, 1, 1), 2);
        x.way(2, 3, 0, 0);
        due("15 a way that isn't driven", x.clash(0, 0, 1, 1), 2);
        x.way(4, 1, 41, 0);
        due("15 a minute short", x.clash(0, 0, 1, 1), 2);
        x.relief(4, true);
        x.way(4, 1, 40, 0);
        due("15 one block then", x.plan(0), 1);
        due("15 just so", x.clash(0, 0, 1, 1), 0);
        due("15 told the other way", x.clash(1, 1, 0, 0), 0);
        x.laws(900, 540, 41, true);
        due("15 break", x.clash(1, 1, 0, 0), 2);
        // Here segment 0 is driven behind segment 1.
        BusBlocks y = atOnePlace(100, 150, 0, 60, 50, 120);
        y.relief(0, true);
        due("15 first block", y.segment(0, 1), 1);
        due("15 its next", y.segment(1, 1), 0);
        due("15 other block", y.segment(2, 1), 2);
        due("15 overlap", y.clash(0, 0, 2, 2), 2);
        due("15 overlap told the other way", y.clash(2, 2, 1, 1), 2);
        y.move(2, 150);
        y.laws(149, 50, 40, true);
        due("15 spread of both", y.clash(1, 1, 0, 0), 3);
        y.laws(150, 110, 40, true);
        due("15 kept told the other way", y.clash(1, 1, 0, 0), 0);
    }

    private static void roster() {
        BusBlocks x = new BusBlocks();
        due("16 none", x.roster(), 0);
        due("16 no duty", x.duty(0, 0), NONE);
        x = atOnePlace(0, 100, 130, 200, 230, 300);
        x.relief(0, true);
        due("16 one", x.roster(), 1);
        x.laws(2880, 170, 30, true);
        due("16 two", x.roster(), 2);
        x.laws(2880, 100, 30, true);
        due("16 three", x.roster(), 3);
        x.laws(2880, 99, 30, true);
        due("16 one segment is too long", x.roster(), NONE);
        due("16 so no duty", x.duty(0, 0), NONE);
        x.laws(99, 540, 30, true);
        due("16 spread too", x.roster(), NONE);
    }

    private static void rosterLeast() {
        // Two PIECES with a lesser first one go ahead of one PIECE that does the same.
        BusBlocks x = atOnePlace(0, 100, 130, 200);
        x.relief(0, true);
        due("16 one duty", x.roster(), 1);
        due("16 lesser first piece", x.duty(0, 1), 0);
        due("16 then a second one", x.duty(0, 2), 1);
        x.laws(900, 540, 31, true);
        due("16 one duty still", x.roster(), 1);
        due("16 one piece", x.duty(0, 1), 1);
        due("16 and no second", x.duty(0, 2), NONE);
        // 0 alone and 1 with 2 go ahead of 0 with 1 and 2 alone.
        BusBlocks y = atOnePlace(0, 100, 200, 300, 400, 500);
        y.relief(0, true);
        y.laws(2880, 200, 30, true);
        due("16 two duties", y.roster(), 2);
        dutiesDue(y, new int[] {0, 0, NONE, NONE}, new int[] {1, 1, 2, 2});
        // Where each must have two, 0 takes the least second one, then the shortest.
        BusBlocks z = atOnePlace(0, 100, 200, 300, 400, 500, 600, 700);
        z.relief(0, true);
        z.laws(2880, 200, 30, true);
        due("16 two duties of two", z.roster(), 2);
        due("16 least second piece", z.duty(0, 2), 1);
        due("16 its end", z.duty(0, 3), 1);
        due("16 second duty", z.duty(1, 0), 2);
        due("16 second duty's second", z.duty(1, 3), 3);
        rosterWay();
    }

    /** A longer second PIECE ends where there is a WAY to the first one, a shorter one doesn't. */
    private static void rosterWay() {
        BusBlocks x = new BusBlocks();
        x.relief(0, true);
        x.relief(1, true);
        x.way(2, 0, 100, 1);
        x.trip(0, 0, 0, 50);
        x.trip(0, 0, 300, 310);
        x.trip(3, 1, 0, 100);
        x.trip(1, 2, 100, 200);
        x.laws(310, 210, 100, true);
        due("16 two blocks", x.plan(0), 2);
        due("16 four segments", x.plan(2), 4);
        due("16 the short one", x.clash(1, 1, 2, 2), 2);
        due("16 the long one", x.clash(1, 1, 2, 3), 0);
        due("16 two duties by the way", x.roster(), 2);
        dutiesDue(x, new int[] {0, 0, NONE, NONE}, new int[] {1, 1, 2, 3});
    }

    private static void rosterKept() {
        BusBlocks x = atOnePlace(0, 100, 130, 200);
        x.way(0, 1, 5, 5);
        due("16 not before it is asked", x.duty(0, 0), NONE);
        for (int change = 0; change < 6; change++) {
            x.roster();
            due("16 kept", x.duty(0, 0), 0);
            x.way(0, 0, 1, 1);
            x.relief(12, true);
            x.trip(0, 0, 5, 5);
            x.drop(9);
            x.move(0, -1);
            x.laws(0, 0, 0, false);
            x.plan(0);
            x.saves(1, 5);
            x.clash(0, 0, NONE, NONE);
            due("16 kept where others tell false", x.duty(0, 0), 0);
            switch (change) {
                case 0: x.way(0, 1, 5, 5); break;
                case 1: x.relief(5, false); break;
                case 2: x.trip(0, 0, 300, 310); break;
                case 3: x.drop(2); break;
                case 4: x.move(0, 0); break;
                default: x.laws(900, 540, 30, true); break;
            }
            due("16 not kept behind change " + change, x.duty(0, 0), NONE);
        }
    }

    private static void rosterLimit() {
        BusBlocks x = new BusBlocks();
        x.relief(0, true);
        for (int i = 0; i < 12; i++) {
            x.trip(0, 0, i * 40, i * 40 + 10);
        }
        due("16 twelve segments", x.roster(), 1);
        due("16 two pieces", x.duty(0, 3), 11);
        x.laws(2880, 20, 30, true);
        due("16 six pairs", x.roster(), 6);
        due("16 last pair", x.duty(5, 2), 11);
        x.laws(2880, 20, 30, false);
        due("16 each alone", x.roster(), 12);
        due("16 last one", x.duty(11, 0), 11);
        due("16 none behind it", x.duty(12, 0), NONE);
        x.trip(0, 0, 2000, 2010);
        due("16 thirteen", x.roster(), -2);
        due("16 none kept", x.duty(0, 0), NONE);
        x.laws(1, 1, 30, false);
        due("16 thirteen, by no law", x.roster(), -2);
        x.relief(0, false);
        due("16 one long one", x.roster(), NONE);
        x.laws(2880, 2880, 0, false);
        due("16 one", x.roster(), 1);
    }

    private static void duty() {
        BusBlocks x = atOnePlace(0, 100, 200, 300, 310, 400);
        x.relief(0, true);
        due("17 without one", x.duty(0, 0), NONE);
        x.laws(2880, 300, 30, true);
        due("17 one duty", x.roster(), 1);
        dutiesDue(x, new int[] {0, 0, 1, 2});
        x.laws(2880, 200, 30, true);
        due("17 two duties", x.roster(), 2);
        dutiesDue(x, new int[] {0, 0, NONE, NONE}, new int[] {1, 2, NONE, NONE});
        due("17 what above", x.duty(0, 4), NONE);
        due("17 what below", x.duty(0, -1), NONE);
        due("17 below", x.duty(-1, 0), NONE);
        due("17 far off", x.duty(MAX, 0), NONE);
        due("17 far below", x.duty(MIN, MIN), NONE);
    }

    private static void dutiesDue(BusBlocks x, int[]... want) {
        for (int i = 0; i < want.length; i++) {
            for (int what = 0; what < 4; what++) {
                due("duty(" + i + ", " + what + ")", x.duty(i, what), want[i][what]);
            }
        }
        due("no duty behind the last one", x.duty(want.length, 0), NONE);
    }

    private static void apart() {
        BusBlocks x = new BusBlocks();
        due("18 none", x.apart(), 0);
        x.trip(0, 1, 0, 10);
        due("18 one", x.apart(), 1);
        x.way(1, 2, 0, 0);
        x.way(3, 4, 0, 0);
        x.trip(2, 3, 10, 20);
        due("18 one follows", x.apart(), 1);
        x.trip(4, 5, 20, 30);
        due("18 first and third, though a block does all", x.apart(), 2);
        due("18 that block", x.plan(0), 1);
        x = new BusBlocks();
        for (int i = 0; i < 16; i++) {
            x.trip(i % 12, 0, 0, 10);
        }
        due("18 all at once", x.apart(), 16);
        x = new BusBlocks();
        for (int i = 0; i < 16; i++) {
            x.trip(0, 0, i, i + 1);
        }
        due("18 all in a row", x.apart(), 1);
        x = atOnePlace(0, 30, 0, 10, 10, 20, 20, 30, 5, 15);
        due("18 three at most", x.apart(), 3);
    }

    private static void saves() {
        BusBlocks x = atOnePlace(0, 10, 5, 15, 20, 30);
        due("19 not at all", x.saves(0, 0), 0);
        due("19 one fewer", x.saves(1, 5), 1);
        due("19 a minute short", x.saves(1, 4), 0);
        due("19 a minute too much", x.saves(1, 6), 0);
        due("19 behind all", x.saves(1, 25), 1);
        due("19 more", x.saves(2, -15), -1);
        due("19 nothing changed", x.tripOf(2, 2), 20);
        due("19 plan stays", x.plan(0), 2);
        due("19 no trip", x.saves(3, 0), -100);
        due("19 below", x.saves(-1, 0), -100);
        due("19 too early", x.saves(0, -1), -100);
        due("19 to the first minute", x.saves(1, -5), 0);
        due("19 to the last minute", x.saves(0, 2869), 1);
        due("19 too late", x.saves(0, 2870), -100);
        due("19 far off", x.saves(0, MAX), -100);
        due("19 far below", x.saves(0, MIN), -100);
        x.roster();
        x.saves(1, 5);
        due("19 roster stays", x.duty(0, 0), 0);
    }

    private static void about() {
        BusBlocks x = atOnePlace(0, 1, 2, 3);
        x.laws(100, 200, 300, false);
        int[] want = {2, 100, 200, 300, 0};
        for (int what = 0; what < 5; what++) {
            due("20 about " + what, x.about(what), want[what]);
        }
        due("20 above", x.about(5), NONE);
        due("20 below", x.about(-1), NONE);
        due("20 far off", x.about(MAX), NONE);
        due("20 far below", x.about(MIN), NONE);
    }
}
