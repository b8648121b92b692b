import java.util.Arrays;

/**
 * A bench for the buses and drivers of a day: trips, the BLOCKS of fewest buses that do them,
 * the SEGMENTS that drivers may take of them, and THE ROSTER of fewest drivers.
 */
public final class BusBlocks {
    /** None. */
    public static final int NONE = -1;

    private static final int PLACES = 12;
    private static final int MOST_MINUTES = 600;
    private static final int MOST_PRICE = 1000;
    private static final int MOST_TRIPS = 16;
    private static final int LAST_MINUTE = 2879;
    private static final int MOST_LAW = 2880;
    private static final int MOST_BREAK = 600;
    private static final int CANNOT_MOVE = -100;
    private static final int TOO_MANY = -2;

    private final Ways ways = new Ways();
    private final Trips trips = new Trips();
    private final Links links = new Links(ways, trips);
    private final Plan thePlan = new Plan(ways, trips, links);
    private final Segments segments = new Segments(ways, trips, thePlan);
    private final Laws theLaws = new Laws(ways, segments);
    private final Roster theRoster = new Roster(segments, theLaws);
    private boolean upToDate = false;

    /** No WAYS but those from a place to itself, no RELIEF, no trips, LAWS as at first. */
    public BusBlocks() {
    }

    /** A WAY from a place to another one; minutes NONE take it away. False for others. */
    public boolean way(int a, int b, int minutes, int price) {
        return noted(ways.put(a, b, minutes, price));
    }

    /** A place is a RELIEF, or not. False: there is none such. */
    public boolean relief(int place, boolean it) {
        return noted(ways.putRelief(place, it));
    }

    /** A new trip's number. NONE for others, or if there are 16. */
    public int trip(int from, int to, int begin, int end) {
        return noted(trips.add(from, to, begin, end)) ? trips.count - 1 : NONE;
    }

    /** A trip goes away, those behind it come one forward. False: there is none such. */
    public boolean drop(int t) {
        return noted(trips.takeAway(t));
    }

    /** A trip begins and ends so many minutes later. False: none such, or it can't. */
    public boolean move(int t, int minutes) {
        return noted(trips.shift(t, minutes));
    }

    /** New LAWS. False, changing nothing, for others. */
    public boolean laws(int spread, int work, int pause, boolean two) {
        boolean told = theLaws.put(spread, work, pause, two);
        if (told) {
            theRoster.forget();
        }
        return told;
    }

    /** Of a trip: 0 from, 1 to, 2 beginning, 3 end. NONE for others. */
    public int tripOf(int t, int what) {
        if (!trips.holds(t)) {
            return NONE;
        }
        switch (what) {
            case 0: return trips.from[t];
            case 1: return trips.to[t];
            case 2: return trips.begin[t];
            case 3: return trips.end[t];
            default: return NONE;
        }
    }

    /** Whether trip j MAY FOLLOW trip i: 1, 0. NONE: there are none such. */
    public int may(int i, int j) {
        if (!trips.holds(i) || !trips.holds(j)) {
            return NONE;
        }
        return links.follows(i, j, 0) ? 1 : 0;
    }

    /** Whether MAY FOLLOW goes on from trip to trip for all trips: 1, 0. */
    public int goesOn() {
        bringUpToDate();
        return links.goOn() ? 1 : 0;
    }

    /** Of THE PLAN: 0 BLOCKS, 1 PRICE, 2 SEGMENTS, 3 the greatest SLACK, 4 the least. */
    public int plan(int what) {
        bringUpToDate();
        switch (what) {
            case 0: return thePlan.count;
            case 1: return thePlan.price;
            case 2: return segments.count;
            case 3: return thePlan.greatestSlack();
            case 4: return thePlan.leastSlack();
            default: return NONE;
        }
    }

    /** Trip i of a BLOCK of THE PLAN. NONE if there is none such. */
    public int block(int b, int i) {
        bringUpToDate();
        return thePlan.tripAt(b, i);
    }

    /** Of a trip in THE PLAN: 0 its BLOCK, 1 the next one, 2 SLACK, 3 its SEGMENT. */
    public int planned(int t, int what) {
        if (!trips.holds(t)) {
            return NONE;
        }
        bringUpToDate();
        switch (what) {
            case 0: return thePlan.blockOf[t];
            case 1: return thePlan.next[t];
            case 2: return thePlan.slack[t];
            case 3: return segments.ofTrip[t];
            default: return NONE;
        }
    }

    /** Of a SEGMENT: 0 its BLOCK, 1 its first trip, 2 its last one, 3 how many trips. */
    public int segment(int s, int what) {
        bringUpToDate();
        if (!segments.holds(s)) {
            return NONE;
        }
        switch (what) {
            case 0: return segments.block[s];
            case 1: return segments.first[s];
            case 2: return segments.last[s];
            case 3: return segments.size[s];
            default: return NONE;
        }
    }

    /** The first law that a DUTY doesn't keep, 0 if it keeps all; NONE: it is no DUTY. */
    public int clash(int a, int b, int c, int d) {
        bringUpToDate();
        if (!segments.isPiece(a, b)) {
            return NONE;
        }
        if (c == NONE) {
            return theLaws.brokenByOne(a, b);
        }
        boolean apart = b < c || d < a;
        if (!segments.isPiece(c, d) || !apart) {
            return NONE;
        }
        return theLaws.brokenByTwo(a, b, c, d);
    }

    /** How many DUTIES THE ROSTER has. NONE: there is none; -2: more than 12 SEGMENTS. */
    public int roster() {
        bringUpToDate();
        return theRoster.tell();
    }

    /** Of DUTY i: 0 first, 1 last SEGMENT of its first PIECE, 2, 3 of its second one. */
    public int duty(int i, int what) {
        return theRoster.of(i, what);
    }

    /** The most trips of which none MAY FOLLOW another one. */
    public int apart() {
        bringUpToDate();
        return links.mostApart();
    }

    /** By how many BLOCKS THE PLAN would be fewer with a trip moved; -100: it can't be. */
    public int saves(int t, int minutes) {
        if (!trips.canShift(t, minutes)) {
            return CANNOT_MOVE;
        }
        bringUpToDate();
        return thePlan.count - thePlan.fewestWith(t, minutes);
    }

    /** 0 trips, 1 SPREAD, 2 WORK, 3 BREAK, 4 whether two PIECES are allowed (1, 0). */
    public int about(int what) {
        switch (what) {
            case 0: return trips.count;
            case 1: return theLaws.spread;
            case 2: return theLaws.work;
            case 3: return theLaws.pause;
            case 4: return theLaws.two ? 1 : 0;
            default: return NONE;
        }
    }

    private boolean noted(boolean changed) {
        if (changed) {
            upToDate = false;
            theRoster.forget();
        }
        return changed;
    }

    private void bringUpToDate() {
        if (!upToDate) {
            links.tell();
            thePlan.make();
            segments.cut();
            upToDate = true;
        }
    }

    /** The number of the lowest bit; some bit must be set. */
    private static int lowest(int bits) {
        return Integer.bitCount((bits & -bits) - 1);
    }

    private static boolean isPlace(int place) {
        return place >= 0 && place < PLACES;
    }

    private static boolean within(int x, int least, int most) {
        return x >= least && x <= most;
    }

    /** WAYS between places, and which places are a RELIEF. */
    private static final class Ways {
        private final int[] minutes = new int[PLACES * PLACES];
        private final int[] price = new int[PLACES * PLACES];
        private final boolean[] relief = new boolean[PLACES];

        Ways() {
            Arrays.fill(minutes, NONE);
            for (int p = 0; p < PLACES; p++) {
                minutes[p * PLACES + p] = 0;
            }
        }

        boolean put(int a, int b, int newMinutes, int newPrice) {
            if (!isPlace(a) || !isPlace(b) || a == b) {
                return false;
            }
            if (!within(newMinutes, NONE, MOST_MINUTES) || !within(newPrice, 0, MOST_PRICE)) {
                return false;
            }
            minutes[a * PLACES + b] = newMinutes;
            price[a * PLACES + b] = newPrice;
            return true;
        }

        boolean putRelief(int place, boolean it) {
            if (!isPlace(place)) {
                return false;
            }
            relief[place] = it;
            return true;
        }

        /** NONE: there is no such WAY. */
        int minutesOf(int a, int b) {
            return isPlace(a) && isPlace(b) ? minutes[a * PLACES + b] : NONE;
        }

        int priceOf(int a, int b) {
            return isPlace(a) && isPlace(b) ? price[a * PLACES + b] : 0;
        }

        boolean isRelief(int place) {
            return isPlace(place) && relief[place];
        }
    }

    /** The trips, each by its number. */
    private static final class Trips {
        final int[] from = new int[MOST_TRIPS];
        final int[] to = new int[MOST_TRIPS];
        final int[] begin = new int[MOST_TRIPS];
        final int[] end = new int[MOST_TRIPS];
        int count = 0;

        boolean holds(int t) {
            return t >= 0 && t < count;
        }

        boolean add(int newFrom, int newTo, int newBegin, int newEnd) {
            if (count >= MOST_TRIPS || !isPlace(newFrom) || !isPlace(newTo)) {
                return false;
            }
            if (newBegin < 0 || newEnd > LAST_MINUTE || newEnd <= newBegin) {
                return false;
            }
            from[count] = newFrom;
            to[count] = newTo;
            begin[count] = newBegin;
            end[count] = newEnd;
            count++;
            return true;
        }

        boolean takeAway(int t) {
            if (!holds(t)) {
                return false;
            }
            count--;
            for (int i = t; i < count; i++) {
                from[i] = from[i + 1];
                to[i] = to[i + 1];
                begin[i] = begin[i + 1];
                end[i] = end[i + 1];
            }
            return true;
        }

        // The minutes stand alone on one side, so that no sum can run over.
        boolean canShift(int t, int minutes) {
            return holds(t) && minutes >= -begin[t] && minutes <= LAST_MINUTE - end[t];
        }

        boolean shift(int t, int minutes) {
            if (!canShift(t, minutes)) {
                return false;
            }
            begin[t] += minutes;
            end[t] += minutes;
            return true;
        }
    }

    /** MAY FOLLOW among the trips: after[i] has a bit for each trip that MAY FOLLOW trip i. */
    private static final class Links {
        final int[] after = new int[MOST_TRIPS];
        private final int[] near = new int[MOST_TRIPS];
        private final Ways ways;
        private final Trips trips;

        Links(Ways ways, Trips trips) {
            this.ways = ways;
            this.trips = trips;
        }

        void tell() {
            for (int i = 0; i < trips.count; i++) {
                after[i] = 0;
                for (int j = 0; j < trips.count; j++) {
                    if (follows(i, j, 0)) {
                        after[i] |= 1 << j;
                    }
                }
            }
        }

        /** Whether j MAY FOLLOW i if j were so much later than i beside what it is now. */
        boolean follows(int i, int j, int later) {
            if (!trips.holds(i) || !trips.holds(j)) {
                return false;
            }
            int minutes = ways.minutesOf(trips.to[i], trips.from[j]);
            return minutes != NONE && trips.end[i] + minutes <= trips.begin[j] + later;
        }

        boolean goOn() {
            for (int i = 0; i < trips.count; i++) {
                for (int j = 0; j < trips.count; j++) {
                    boolean linked = (after[i] >> j & 1) == 1;
                    if (linked && (after[j] & ~after[i]) != 0) {
                        return false;
                    }
                }
            }
            return true;
        }

        /** MAY FOLLOW need not go on from trip to trip, so BLOCKS don't tell this. */
        int mostApart() {
            for (int i = 0; i < trips.count; i++) {
                near[i] = after[i];
                for (int j = 0; j < trips.count; j++) {
                    near[i] |= (after[j] >> i & 1) << j;
                }
            }
            return mostOf(near, (1 << trips.count) - 1, 0);
        }

        /** The most trips of those left of which no two are near: the most crowded one is in or out. */
        private static int mostOf(int[] near, int left, int depth) {
            int pick = NONE;
            int crowd = 0;
            int crowded = 0;
            for (int t = 0; t < MOST_TRIPS; t++) {
                int around = (left >> t & 1) == 1 ? Integer.bitCount(near[t] & left) : 0;
                if (around > 0) {
                    crowded++;
                }
                if (around > crowd) {
                    crowd = around;
                    pick = t;
                }
            }
            if (crowd <= 1 || depth >= MOST_TRIPS) {
                // Here the crowded ones stand in pairs, and one of each pair may stay.
                return Integer.bitCount(left) - crowded / 2;
            }
            int out = left & ~(1 << pick);
            int without = mostOf(near, out, depth + 1);
            int with = 1 + mostOf(near, out & ~near[pick], depth + 1);
            return Math.max(with, without);
        }
    }

    /** Rows and columns in pairs, each row with a column that is open to it. */
    private static final class Pairing {
        /** By row: a bit for each column that it may have. */
        final int[] open = new int[MOST_TRIPS];
        final int[] columnOf = new int[MOST_TRIPS];
        final int[] rowOf = new int[MOST_TRIPS];
        private int taken = 0;
        private int seen = 0;

        void clear() {
            Arrays.fill(columnOf, NONE);
            Arrays.fill(rowOf, NONE);
            taken = 0;
        }

        void join(int row, int column) {
            columnOf[row] = column;
            rowOf[column] = row;
            taken |= 1 << column;
        }

        /** The most pairs that there can be of so many rows. */
        int most(int rows) {
            clear();
            int pairs = 0;
            for (int row = 0; row < rows; row++) {
                seen = 0;
                if (seat(this, row, 0)) {
                    pairs++;
                }
            }
            return pairs;
        }

        /**
         * Takes the row to the column, if all other rows can have columns that are open to them;
         * then no other column is open to it. Else nothing is changed.
         */
        boolean bind(int row, int column) {
            int old = columnOf[row];
            if (old == column) {
                open[row] = 1 << column;
                return true;
            }
            int other = rowOf[column];
            if (old == NONE || other == NONE) {
                return false;
            }
            int wasOpen = open[row];
            open[row] = 1 << column;
            join(row, column);
            rowOf[old] = NONE;
            taken &= ~(1 << old);
            seen = 0;
            if (seat(this, other, 0)) {
                return true;
            }
            open[row] = wasOpen;
            join(row, old);
            join(other, column);
            return false;
        }

        /** Gives the row a column; one that has it already may go on to another one. */
        private static boolean seat(Pairing pairs, int row, int depth) {
            if (depth > MOST_TRIPS) {
                return false;
            }
            for (int tries = 0; tries < MOST_TRIPS; tries++) {
                int left = pairs.open[row] & ~pairs.seen;
                if (left == 0) {
                    return false;
                }
                int free = left & ~pairs.taken;
                int column = lowest(free != 0 ? free : left);
                pairs.seen |= 1 << column;
                if (free != 0 || seat(pairs, pairs.rowOf[column], depth + 1)) {
                    pairs.join(row, column);
                    return true;
                }
            }
            return false;
        }
    }

    /**
     * Pairs each row with a column at the least cost together (the Hungarian way): every row and
     * every column has a toll, no two tolls are together above the cost, and pairs reach it.
     */
    private static final class LeastCost {
        private static final int FAR = 1000000;

        final int[] cost = new int[MOST_TRIPS * MOST_TRIPS];
        private final int[] rowToll = new int[MOST_TRIPS];
        private final int[] columnToll = new int[MOST_TRIPS];
        private final int[] distance = new int[MOST_TRIPS];
        private final int[] cameFrom = new int[MOST_TRIPS];
        private final Pairing pairs;
        private int size = 0;
        private int reached = 0;

        LeastCost(Pairing pairs) {
            this.pairs = pairs;
        }

        /** Leaves open to each row the columns whose tolls reach the cost: no other pair is of least cost. */
        void solve(int newSize) {
            size = Math.max(0, Math.min(newSize, MOST_TRIPS));
            pairs.clear();
            Arrays.fill(rowToll, 0);
            Arrays.fill(columnToll, 0);
            for (int row = 0; row < size; row++) {
                place(row);
            }
            for (int row = 0; row < size; row++) {
                pairs.open[row] = 0;
                for (int column = 0; column < size; column++) {
                    if (over(row, column) == 0) {
                        pairs.open[row] |= 1 << column;
                    }
                }
            }
        }

        private int over(int row, int column) {
            return cost[row * MOST_TRIPS + column] - rowToll[row] - columnToll[column];
        }

        private void place(int row) {
            Arrays.fill(distance, FAR);
            reached = 0;
            int from = row;
            int way = 0;
            for (int step = 0; step < size; step++) {
                look(from, way);
                int column = nearest();
                if (column == NONE) {
                    return;
                }
                way = distance[column];
                if (pairs.rowOf[column] == NONE) {
                    changeTolls(row, way);
                    turnOver(row, column);
                    return;
                }
                reached |= 1 << column;
                from = pairs.rowOf[column];
            }
        }

        private void look(int from, int way) {
            for (int column = 0; column < size; column++) {
                if ((reached >> column & 1) == 0) {
                    int there = way + over(from, column);
                    if (there < distance[column]) {
                        distance[column] = there;
                        cameFrom[column] = from;
                    }
                }
            }
        }

        /** Of like ones one that is free, as the search ends there. */
        private int nearest() {
            int best = NONE;
            int least = FAR;
            for (int column = 0; column < size; column++) {
                if ((reached >> column & 1) == 0 && distance[column] <= least) {
                    boolean free = pairs.rowOf[column] == NONE;
                    if (free || distance[column] < least) {
                        best = column;
                        least = distance[column];
                    }
                }
            }
            return best;
        }

        private void changeTolls(int row, int way) {
            rowToll[row] += way;
            for (int column = 0; column < size; column++) {
                if ((reached >> column & 1) == 1) {
                    int more = way - distance[column];
                    rowToll[pairs.rowOf[column]] += more;
                    columnToll[column] -= more;
                }
            }
        }

        private void turnOver(int row, int free) {
            int column = free;
            for (int step = 0; step < size; step++) {
                int from = cameFrom[column];
                int old = pairs.columnOf[from];
                pairs.join(from, column);
                if (from == row || old == NONE) {
                    return;
                }
                column = old;
            }
        }
    }

    /** THE PLAN. */
    private static final class Plan {
        /** Above all prices of a plan together, so that fewer BLOCKS go ahead of a lower PRICE. */
        private static final int NO_LINK = MOST_PRICE * MOST_TRIPS + 1;

        final int[] next = new int[MOST_TRIPS];
        final int[] slack = new int[MOST_TRIPS];
        final int[] blockOf = new int[MOST_TRIPS];
        int count = 0;
        int price = 0;
        /** The trips BLOCK by BLOCK, and where in this row each BLOCK starts. */
        private final int[] row = new int[MOST_TRIPS];
        private final int[] start = new int[MOST_TRIPS + 1];
        private final Ways ways;
        private final Trips trips;
        private final Links links;
        private final Pairing pairs = new Pairing();
        private final LeastCost leastCost = new LeastCost(pairs);

        Plan(Ways ways, Trips trips, Links links) {
            this.ways = ways;
            this.trips = trips;
            this.links = links;
        }

        void make() {
            setCosts();
            leastCost.solve(trips.count);
            price = 0;
            for (int t = 0; t < trips.count; t++) {
                next[t] = leastNext(t);
                slack[t] = NONE;
                if (next[t] != NONE) {
                    int to = trips.to[t];
                    int from = trips.from[next[t]];
                    price += ways.priceOf(to, from);
                    slack[t] = trips.begin[next[t]] - trips.end[t] - ways.minutesOf(to, from);
                }
            }
            numberBlocks();
        }

        // Each trip is paired with the next one or, at NO_LINK, with some that has none ahead of it:
        // where these could be linked, the pairing would not be of least cost.
        private void setCosts() {
            for (int i = 0; i < trips.count; i++) {
                for (int j = 0; j < trips.count; j++) {
                    boolean linked = (links.after[i] >> j & 1) == 1;
                    leastCost.cost[i * MOST_TRIPS + j] =
                        linked ? ways.priceOf(trips.to[i], trips.from[j]) : NO_LINK;
                }
            }
        }

        /** The least next trip that leaves a pairing of least cost with all that is bound before. */
        private int leastNext(int t) {
            int candidates = pairs.open[t] & links.after[t];
            for (int j = 0; j < trips.count; j++) {
                if ((candidates >> j & 1) == 1 && pairs.bind(t, j)) {
                    return j;
                }
            }
            return NONE;
        }

        private void numberBlocks() {
            int followers = 0;
            for (int t = 0; t < trips.count; t++) {
                if (next[t] != NONE) {
                    followers |= 1 << next[t];
                }
            }
            count = 0;
            int filled = 0;
            for (int t = 0; t < trips.count; t++) {
                if ((followers >> t & 1) == 0) {
                    start[count] = filled;
                    filled = fillBlock(t, filled);
                    count++;
                }
            }
            start[count] = filled;
        }

        private int fillBlock(int firstTrip, int from) {
            int t = firstTrip;
            int at = from;
            while (t != NONE && at < MOST_TRIPS) {
                row[at] = t;
                blockOf[t] = count;
                at++;
                t = next[t];
            }
            return at;
        }

        int sizeOf(int b) {
            return b >= 0 && b < count ? start[b + 1] - start[b] : 0;
        }

        int tripAt(int b, int i) {
            return i >= 0 && i < sizeOf(b) ? row[start[b] + i] : NONE;
        }

        int greatestSlack() {
            int greatest = NONE;
            for (int t = 0; t < trips.count; t++) {
                greatest = Math.max(greatest, slack[t]);
            }
            return greatest;
        }

        int leastSlack() {
            int least = NONE;
            for (int t = 0; t < trips.count; t++) {
                if (slack[t] != NONE && (least == NONE || slack[t] < least)) {
                    least = slack[t];
                }
            }
            return least;
        }

        /** How many BLOCKS there would be with trip t so many minutes later. */
        int fewestWith(int t, int minutes) {
            for (int i = 0; i < trips.count; i++) {
                pairs.open[i] = links.after[i] & ~(1 << t);
                if (i != t && links.follows(i, t, minutes)) {
                    pairs.open[i] |= 1 << t;
                }
            }
            pairs.open[t] = 0;
            for (int j = 0; j < trips.count; j++) {
                if (j != t && links.follows(t, j, -minutes)) {
                    pairs.open[t] |= 1 << j;
                }
            }
            return trips.count - pairs.most(trips.count);
        }
    }

    /** The SEGMENTS of THE PLAN. */
    private static final class Segments {
        final int[] block = new int[MOST_TRIPS];
        final int[] first = new int[MOST_TRIPS];
        final int[] last = new int[MOST_TRIPS];
        final int[] size = new int[MOST_TRIPS];
        final int[] ofTrip = new int[MOST_TRIPS];
        int count = 0;
        private final Ways ways;
        private final Trips trips;
        private final Plan plan;

        Segments(Ways ways, Trips trips, Plan plan) {
            this.ways = ways;
            this.trips = trips;
            this.plan = plan;
        }

        void cut() {
            count = 0;
            for (int b = 0; b < plan.count; b++) {
                boolean isNew = true;
                for (int i = 0; i < plan.sizeOf(b); i++) {
                    int t = plan.tripAt(b, i);
                    if (isNew) {
                        open(b, t);
                    }
                    last[count - 1] = t;
                    size[count - 1]++;
                    ofTrip[t] = count - 1;
                    isNew = ways.isRelief(trips.to[t]);
                }
            }
        }

        private void open(int b, int firstTrip) {
            block[count] = b;
            first[count] = firstTrip;
            size[count] = 0;
            count++;
        }

        boolean holds(int s) {
            return s >= 0 && s < count;
        }

        boolean isPiece(int a, int b) {
            return holds(a) && holds(b) && a <= b && block[a] == block[b];
        }

        int beginning(int s) {
            return trips.begin[first[s]];
        }

        int ending(int s) {
            return trips.end[last[s]];
        }

        int placeAtBeginning(int s) {
            return trips.from[first[s]];
        }

        int placeAtEnd(int s) {
            return trips.to[last[s]];
        }
    }

    /** The LAWS, and which of them a DUTY breaks. */
    private static final class Laws {
        int spread = 900;
        int work = 540;
        int pause = 30;
        boolean two = true;
        private final Ways ways;
        private final Segments segments;

        Laws(Ways ways, Segments segments) {
            this.ways = ways;
            this.segments = segments;
        }

        boolean put(int newSpread, int newWork, int newPause, boolean newTwo) {
            if (!within(newSpread, 1, MOST_LAW) || !within(newWork, 1, MOST_LAW)
                    || !within(newPause, 0, MOST_BREAK)) {
                return false;
            }
            spread = newSpread;
            work = newWork;
            pause = newPause;
            two = newTwo;
            return true;
        }

        /** The first law that the PIECE from SEGMENT a to b breaks, or 0. */
        int brokenByOne(int a, int b) {
            int minutes = minutesOf(a, b);
            if (minutes > spread) {
                return 3;
            }
            return minutes > work ? 4 : 0;
        }

        /** The first law that the PIECES from a to b and from c to d break together, or 0. */
        int brokenByTwo(int a, int b, int c, int d) {
            if (!two) {
                return 1;
            }
            boolean told = segments.beginning(a) <= segments.beginning(c);
            int begin = told ? a : c;
            int change = told ? b : d;
            int again = told ? c : a;
            int end = told ? d : b;
            if (!canChange(change, again)) {
                return 2;
            }
            if (segments.ending(end) - segments.beginning(begin) > spread) {
                return 3;
            }
            return minutesOf(a, b) + minutesOf(c, d) > work ? 4 : 0;
        }

        private boolean canChange(int lastOne, int nextOne) {
            int way = ways.minutesOf(segments.placeAtEnd(lastOne), segments.placeAtBeginning(nextOne));
            int between = segments.beginning(nextOne) - segments.ending(lastOne);
            return way != NONE && between >= way && between >= pause;
        }

        private int minutesOf(int a, int b) {
            return segments.ending(b) - segments.beginning(a);
        }
    }

    /** THE ROSTER. Sets of SEGMENTS are bits; a DUTY is its set and, above it, its other ends. */
    private static final class Roster {
        private static final int MOST_SEGMENTS = 12;
        private static final int ALL = (1 << MOST_SEGMENTS) - 1;
        /** 78 of one PIECE and 1001 of two, if all SEGMENTS are of one BLOCK. */
        private static final int MOST_DUTIES = 1079;
        private static final int NO_PIECE = 15;
        private static final int LAST_AT = 12;
        private static final int SECOND_FIRST_AT = 16;
        private static final int SECOND_LAST_AT = 20;

        private final Segments segments;
        private final Laws laws;
        /** DUTIES that keep the laws, by least SEGMENTS and then as they are less or more. */
        private final int[] lawful = new int[MOST_DUTIES];
        private final int[] start = new int[MOST_SEGMENTS + 1];
        /** By set of SEGMENTS that are done, four bits each: how many DUTIES don't do the others. */
        private final long[] tooFew = new long[(ALL + 1) / 16];
        private final int[] chosen = new int[MOST_SEGMENTS];
        private int listed = 0;
        private int blockHeads = 0;
        private int answer = NONE;
        private boolean kept = false;

        Roster(Segments segments, Laws laws) {
            this.segments = segments;
            this.laws = laws;
        }

        void forget() {
            kept = false;
        }

        int tell() {
            if (!kept) {
                kept = true;
                answer = NONE;
                if (segments.count > MOST_SEGMENTS) {
                    answer = TOO_MANY;
                } else if (listLawful()) {
                    answer = fewest();
                }
            }
            return answer;
        }

        int of(int i, int what) {
            if (!kept || i < 0 || i >= answer || i >= MOST_SEGMENTS) {
                return NONE;
            }
            int duty = chosen[i];
            switch (what) {
                case 0: return lowest(duty & ALL);
                case 1: return endAt(duty, LAST_AT);
                case 2: return endAt(duty, SECOND_FIRST_AT);
                case 3: return endAt(duty, SECOND_LAST_AT);
                default: return NONE;
            }
        }

        private static int endAt(int duty, int at) {
            int s = duty >> at & 15;
            return s == NO_PIECE ? NONE : s;
        }

        /** False if some SEGMENT breaks a law alone, and so in any DUTY. */
        private boolean listLawful() {
            listed = 0;
            blockHeads = 0;
            for (int s = 0; s < segments.count; s++) {
                start[s] = listed;
                if (!segments.isPiece(s - 1, s)) {
                    blockHeads |= 1 << s;
                }
                for (int e = s; e < segments.count; e++) {
                    if (!segments.isPiece(s, e) || laws.brokenByOne(s, e) != 0) {
                        // What is too long alone stays so with more SEGMENTS, or a second PIECE.
                        break;
                    }
                    list(packed(bits(s, e), e, NO_PIECE, NO_PIECE));
                    listSeconds(s, e);
                }
                if (listed == start[s]) {
                    return false;
                }
            }
            start[segments.count] = listed;
            return true;
        }

        // No second PIECE ends the loop: a longer one may have a WAY that a shorter one lacks.
        private void listSeconds(int s, int e) {
            for (int f = e + 1; f < segments.count; f++) {
                for (int g = f; g < segments.count; g++) {
                    if (segments.isPiece(f, g) && laws.brokenByTwo(s, e, f, g) == 0) {
                        list(packed(bits(s, e) | bits(f, g), e, f, g));
                    }
                }
            }
        }

        private static int packed(int set, int e, int f, int g) {
            return set | e << LAST_AT | f << SECOND_FIRST_AT | g << SECOND_LAST_AT;
        }

        private void list(int duty) {
            if (listed < MOST_DUTIES) {
                lawful[listed] = duty;
                listed++;
            }
        }

        private static int bits(int a, int b) {
            return (2 << b) - (1 << a);
        }

        private int fewest() {
            Arrays.fill(tooFew, 0L);
            for (int duties = 0; duties <= segments.count; duties++) {
                if (doesAll(this, 0, duties, duties)) {
                    return duties;
                }
            }
            return NONE;
        }

        /**
         * Whether so many DUTIES more do all that is not done. They are tried from the least on, so
         * that the first ones found are THE ROSTER, if fewer would not do.
         */
        private static boolean doesAll(Roster roster, int done, int duties, int all) {
            if (done == (1 << roster.segments.count) - 1) {
                return true;
            }
            if (duties <= 0 || roster.isHopeless(done, duties)) {
                return false;
            }
            int s = lowest(~done);
            for (int i = roster.start[s]; i < roster.start[s + 1]; i++) {
                int duty = roster.lawful[i];
                if ((duty & done) == 0 && doesAll(roster, done | (duty & ALL), duties - 1, all)) {
                    roster.chosen[all - duties] = duty;
                    return true;
                }
            }
            roster.noteTooFew(done, duties);
            return false;
        }

        private boolean isHopeless(int done, int duties) {
            int known = (int) (tooFew[done >> 4] >> ((done & 15) * 4)) & 15;
            if (duties <= known) {
                return true;
            }
            int left = ((1 << segments.count) - 1) & ~done;
            int follows = (left << 1) & ~blockHeads;
            int stretches = Integer.bitCount(left & ~follows);
            return stretches > (laws.two ? 2 * duties : duties);
        }

        private void noteTooFew(int done, int duties) {
            int at = (done & 15) * 4;
            long others = tooFew[done >> 4] & ~(15L << at);
            tooFew[done >> 4] = others | (long) duties << at;
        }
    }
}
