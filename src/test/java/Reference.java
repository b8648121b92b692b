import java.util.ArrayList;
import java.util.HashMap;
import java.util.List;
import java.util.Map;

/** The document said once more, as plainly as can be and without care for time or room. */
final class Reference {
    private static final int NONE = -1;

    private final int[][] minutes = new int[12][12];
    private final int[][] price = new int[12][12];
    private final boolean[] relief = new boolean[12];
    private final List<int[]> trips = new ArrayList<>();
    private int spread = 900;
    private int work = 540;
    private int pause = 30;
    private boolean two = true;
    private List<int[]> roster = null;
    private List<List<Integer>> blocks = null;
    private List<List<Integer>> segments = null;

    Reference() {
        for (int a = 0; a < 12; a++) {
            for (int b = 0; b < 12; b++) {
                minutes[a][b] = a == b ? 0 : NONE;
            }
        }
    }

    private void changed() {
        roster = null;
        blocks = null;
        segments = null;
    }

    boolean way(int a, int b, int newMinutes, int newPrice) {
        if (a < 0 || a > 11 || b < 0 || b > 11 || a == b) {
            return false;
        }
        if (newMinutes < -1 || newMinutes > 600 || newPrice < 0 || newPrice > 1000) {
            return false;
        }
        minutes[a][b] = newMinutes;
        price[a][b] = newPrice;
        changed();
        return true;
    }

    boolean relief(int place, boolean it) {
        if (place < 0 || place > 11) {
            return false;
        }
        relief[place] = it;
        changed();
        return true;
    }

    int trip(int from, int to, int begin, int end) {
        if (from < 0 || from > 11 || to < 0 || to > 11 || trips.size() == 16) {
            return NONE;
        }
        if (begin < 0 || begin > 2879 || end < 0 || end > 2879 || end <= begin) {
            return NONE;
        }
        trips.add(new int[] {from, to, begin, end});
        changed();
        return trips.size() - 1;
    }

    boolean drop(int t) {
        if (t < 0 || t >= trips.size()) {
            return false;
        }
        trips.remove(t);
        changed();
        return true;
    }

    private boolean canMove(int t, int later) {
        if (t < 0 || t >= trips.size()) {
            return false;
        }
        return (long) trips.get(t)[2] + later >= 0 && (long) trips.get(t)[3] + later <= 2879;
    }

    boolean move(int t, int later) {
        if (!canMove(t, later)) {
            return false;
        }
        trips.get(t)[2] += later;
        trips.get(t)[3] += later;
        changed();
        return true;
    }

    boolean laws(int newSpread, int newWork, int newPause, boolean newTwo) {
        if (newSpread < 1 || newSpread > 2880 || newWork < 1 || newWork > 2880) {
            return false;
        }
        if (newPause < 0 || newPause > 600) {
            return false;
        }
        spread = newSpread;
        work = newWork;
        pause = newPause;
        two = newTwo;
        roster = null;
        return true;
    }

    int tripOf(int t, int what) {
        return t < 0 || t >= trips.size() || what < 0 || what > 3 ? NONE : trips.get(t)[what];
    }

    private boolean follows(int i, int j) {
        int way = minutes[trips.get(i)[1]][trips.get(j)[0]];
        return way != NONE && trips.get(i)[3] + way <= trips.get(j)[2];
    }

    int may(int i, int j) {
        if (i < 0 || j < 0 || i >= trips.size() || j >= trips.size()) {
            return NONE;
        }
        return follows(i, j) ? 1 : 0;
    }

    int goesOn() {
        int n = trips.size();
        for (int i = 0; i < n; i++) {
            for (int j = 0; j < n; j++) {
                for (int k = 0; k < n; k++) {
                    if (follows(i, j) && follows(j, k) && !follows(i, k)) {
                        return 0;
                    }
                }
            }
        }
        return 1;
    }

    /** The next trips of trip i and those behind it, with what is taken; number n is none. */
    private int[] bestNexts(int i, int taken, Map<Integer, int[]> known) {
        int n = trips.size();
        if (i == n) {
            return new int[] {0, 0};
        }
        int key = i << 16 | taken;
        if (known.containsKey(key)) {
            return known.get(key);
        }
        int[] best = null;
        for (int j = 0; j <= n; j++) {
            boolean none = j == n;
            if (!none && ((taken >> j & 1) == 1 || !follows(i, j))) {
                continue;
            }
            int[] rest = bestNexts(i + 1, none ? taken : taken | 1 << j, known);
            int blocksHere = rest[0] + (none ? 1 : 0);
            int priceHere = rest[1] + (none ? 0 : price[trips.get(i)[1]][trips.get(j)[0]]);
            if (best == null || blocksHere < best[0] || blocksHere == best[0] && priceHere < best[1]) {
                best = new int[rest.length + 1];
                best[0] = blocksHere;
                best[1] = priceHere;
                best[2] = j;
                System.arraycopy(rest, 2, best, 3, rest.length - 2);
            }
        }
        known.put(key, best);
        return best;
    }

    private List<List<Integer>> blocks() {
        if (blocks == null) {
            int n = trips.size();
            int[] nexts = bestNexts(0, 0, new HashMap<>());
            boolean[] behind = new boolean[n + 1];
            for (int i = 0; i < n; i++) {
                behind[nexts[i + 2]] = true;
            }
            blocks = new ArrayList<>();
            for (int i = 0; i < n; i++) {
                if (!behind[i]) {
                    List<Integer> block = new ArrayList<>();
                    for (int t = i; t < n; t = nexts[t + 2]) {
                        block.add(t);
                    }
                    blocks.add(block);
                }
            }
        }
        return blocks;
    }

    private List<List<Integer>> segments() {
        if (segments == null) {
            segments = new ArrayList<>();
            for (List<Integer> block : blocks()) {
                List<Integer> segment = new ArrayList<>();
                for (int t : block) {
                    segment.add(t);
                    if (relief[trips.get(t)[1]]) {
                        segments.add(segment);
                        segment = new ArrayList<>();
                    }
                }
                if (!segment.isEmpty()) {
                    segments.add(segment);
                }
            }
        }
        return segments;
    }

    private int nextOf(int t) {
        for (List<Integer> block : blocks()) {
            int at = block.indexOf(t);
            if (at >= 0) {
                return at + 1 < block.size() ? block.get(at + 1) : NONE;
            }
        }
        throw new IllegalStateException("trip in no block");
    }

    private int slackOf(int t) {
        int next = nextOf(t);
        if (next == NONE) {
            return NONE;
        }
        int[] a = trips.get(t);
        int[] b = trips.get(next);
        return b[2] - a[3] - minutes[a[1]][b[0]];
    }

    int plan(int what) {
        int sum = 0;
        int greatest = NONE;
        int least = NONE;
        for (int t = 0; t < trips.size(); t++) {
            int next = nextOf(t);
            if (next != NONE) {
                sum += price[trips.get(t)[1]][trips.get(next)[0]];
                greatest = greatest == NONE ? slackOf(t) : Math.max(greatest, slackOf(t));
                least = least == NONE ? slackOf(t) : Math.min(least, slackOf(t));
            }
        }
        switch (what) {
            case 0: return blocks().size();
            case 1: return sum;
            case 2: return segments().size();
            case 3: return greatest;
            case 4: return least;
            default: return NONE;
        }
    }

    int block(int b, int i) {
        if (b < 0 || b >= blocks().size() || i < 0 || i >= blocks().get(b).size()) {
            return NONE;
        }
        return blocks().get(b).get(i);
    }

    private static int placeIn(List<List<Integer>> rows, int t) {
        for (int i = 0; i < rows.size(); i++) {
            if (rows.get(i).contains(t)) {
                return i;
            }
        }
        return NONE;
    }

    int planned(int t, int what) {
        if (t < 0 || t >= trips.size()) {
            return NONE;
        }
        switch (what) {
            case 0: return placeIn(blocks(), t);
            case 1: return nextOf(t);
            case 2: return slackOf(t);
            case 3: return placeIn(segments(), t);
            default: return NONE;
        }
    }

    int segment(int s, int what) {
        if (s < 0 || s >= segments().size()) {
            return NONE;
        }
        List<Integer> it = segments().get(s);
        switch (what) {
            case 0: return placeIn(blocks(), it.get(0));
            case 1: return it.get(0);
            case 2: return it.get(it.size() - 1);
            case 3: return it.size();
            default: return NONE;
        }
    }

    private boolean isPiece(int a, int b) {
        return a >= 0 && b < segments().size() && a <= b && segment(a, 0) == segment(b, 0);
    }

    int clash(int a, int b, int c, int d) {
        if (!isPiece(a, b) || c != NONE && !isPiece(c, d)) {
            return NONE;
        }
        int[] first = trips.get(segment(a, 1));
        int[] last = trips.get(segment(b, 2));
        if (c == NONE) {
            return last[3] - first[2] > spread ? 3 : last[3] - first[2] > work ? 4 : 0;
        }
        for (int s = a; s <= b; s++) {
            if (s >= c && s <= d) {
                return NONE;
            }
        }
        int[] otherFirst = trips.get(segment(c, 1));
        int[] otherLast = trips.get(segment(d, 2));
        if (!two) {
            return 1;
        }
        if (first[2] > otherFirst[2]) {
            return clash(c, d, a, b);
        }
        int way = minutes[last[1]][otherFirst[0]];
        if (otherFirst[2] < last[3] + pause || way == NONE || otherFirst[2] < last[3] + way) {
            return 2;
        }
        if (otherLast[3] - first[2] > spread) {
            return 3;
        }
        return last[3] - first[2] + otherLast[3] - otherFirst[2] > work ? 4 : 0;
    }

    /** Below 0 if the DUTIES of a stand ahead of those of b. */
    private static int compare(List<int[]> a, List<int[]> b) {
        if (a.size() != b.size()) {
            return a.size() - b.size();
        }
        for (int i = 0; i < a.size(); i++) {
            for (int what = 0; what < 4; what++) {
                int less = Integer.compare(a.get(i)[what], b.get(i)[what]);
                if (less != 0) {
                    return less;
                }
            }
        }
        return 0;
    }

    /** The least DUTIES for the SEGMENTS that are not done; null: there are none. */
    private List<int[]> bestDuties(int done, Map<Integer, List<int[]>> known) {
        int n = segments().size();
        if (done == (1 << n) - 1) {
            return new ArrayList<>();
        }
        if (known.containsKey(done)) {
            return known.get(done);
        }
        int s = 0;
        while ((done >> s & 1) == 1) {
            s++;
        }
        List<int[]> best = null;
        for (int e = s; e < n; e++) {
            best = better(best, done, new int[] {s, e, NONE, NONE}, known);
            for (int f = e + 1; f < n; f++) {
                for (int g = f; g < n; g++) {
                    best = better(best, done, new int[] {s, e, f, g}, known);
                }
            }
        }
        known.put(done, best);
        return best;
    }

    private List<int[]> better(List<int[]> best, int done, int[] duty, Map<Integer, List<int[]>> known) {
        int does = 0;
        for (int s = 0; s < segments().size(); s++) {
            if (s >= duty[0] && s <= duty[1] || s >= duty[2] && s <= duty[3]) {
                does |= 1 << s;
            }
        }
        if ((done & does) != 0 || clash(duty[0], duty[1], duty[2], duty[3]) != 0) {
            return best;
        }
        List<int[]> rest = bestDuties(done | does, known);
        if (rest == null) {
            return best;
        }
        List<int[]> all = new ArrayList<>();
        all.add(duty);
        all.addAll(rest);
        return best == null || compare(all, best) < 0 ? all : best;
    }

    int roster() {
        roster = null;
        if (segments().size() > 12) {
            return -2;
        }
        roster = bestDuties(0, new HashMap<>());
        return roster == null ? NONE : roster.size();
    }

    int duty(int i, int what) {
        if (roster == null || i < 0 || i >= roster.size() || what < 0 || what > 3) {
            return NONE;
        }
        return roster.get(i)[what];
    }

    int apart() {
        int n = trips.size();
        int most = 0;
        for (int set = 0; set < 1 << n; set++) {
            if (Integer.bitCount(set) > most && isApart(set)) {
                most = Integer.bitCount(set);
            }
        }
        return most;
    }

    private boolean isApart(int set) {
        for (int i = 0; i < trips.size(); i++) {
            for (int j = 0; j < trips.size(); j++) {
                if ((set >> i & 1) == 1 && (set >> j & 1) == 1 && follows(i, j)) {
                    return false;
                }
            }
        }
        return true;
    }

    int saves(int t, int later) {
        if (!canMove(t, later)) {
            return -100;
        }
        int now = blocks().size();
        trips.get(t)[2] += later;
        trips.get(t)[3] += later;
        int then = bestNexts(0, 0, new HashMap<>())[0];
        trips.get(t)[2] -= later;
        trips.get(t)[3] -= later;
        return now - then;
    }

    int about(int what) {
        switch (what) {
            case 0: return trips.size();
            case 1: return spread;
            case 2: return work;
            case 3: return pause;
            case 4: return two ? 1 : 0;
            default: return NONE;
        }
    }
}
