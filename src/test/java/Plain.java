import java.util.ArrayList;
import java.util.List;

/**
 * A second program for MINUTES, read from the document by itself: it keeps every MINUTE and looks back, where FlagWalk
 * keeps counts. It is slow and plain.
 */
final class Plain {
    int end = 40;
    final List<int[]> marks = new ArrayList<>();     // kind, place, length
    final List<int[]> people = new ArrayList<>();    // kind, pace, ear
    final int[] rules = {2, 5, 0, 10, 3};

    int[] heard;
    int[] rested;
    int[] there;
    int[] lostAt;
    int guideThere;
    int mostOut;
    int[][] placeBehind;
    int[] guideBehind;
    int[] outBehind;
    private boolean[] allNearBehind;

    static Plain some(Check.Row row) {
        Plain p = new Plain();
        p.end = row.once(3) ? row.between(10, 99) : row.between(10, 45);
        int most = row.between(0, 10);
        for (int i = 0; i < most; i++) {
            p.mark(row.between(0, 3), row);
        }
        int crowd = row.once(12) ? 0 : row.between(1, 10);
        int tailIn = row.once(3) ? row.between(0, 9) : -1;
        for (int i = 0; i < crowd; i++) {
            int kind = i == tailIn ? 3 : row.between(0, 2);
            p.people.add(new int[] {kind, row.between(1, 4), row.between(0, 1)});
        }
        p.rules[0] = row.between(1, 4);
        p.rules[1] = row.between(0, 10);
        p.rules[2] = row.between(0, row.once(2) ? 9 : 3);
        p.rules[3] = row.between(0, row.once(2) ? 30 : 4);
        p.rules[4] = row.between(1, row.once(2) ? 20 : 4);
        return p;
    }

    private void mark(int kind, Check.Row row) {
        int place = row.between(0, row.once(6) ? 99 : end);
        int[] least = {1, 2, 1, 1};
        int[] most = {20, 20, 20, 50};
        int length = row.between(least[kind], row.once(2) ? most[kind] : least[kind] + 5);
        if (find(kind, place) == null) {
            marks.add(new int[] {kind, place, length});
        }
    }

    FlagWalk made() {
        FlagWalk x = new FlagWalk();
        x.end(end);
        for (int[] m : marks) {
            x.mark(m[0], m[1], m[2]);
        }
        for (int[] p : people) {
            x.person(p[0], p[1], p[2] == 1);
        }
        for (int r = 0; r < 5; r++) {
            x.rule(r, rules[r]);
        }
        return x;
    }

    private int[] find(int kind, int place) {
        for (int[] m : marks) {
            if (m[0] == kind && m[1] == place) {
                return m;
            }
        }
        return null;
    }

    private int[] met(int kind, int place) {
        return place >= end ? null : find(kind, place);
    }

    private boolean red(int place, int minute) {
        int[] light = met(1, place);
        return light != null && minute % light[2] < light[2] / 2;
    }

    private boolean near(int person, int guide, int[] place, int reach) {
        return lostAt[person] < 0 && guide - place[person] <= reach;
    }

    private int lastOf(int[] place, int but) {
        int last = Integer.MAX_VALUE;
        for (int i = 0; i < place.length; i++) {
            if (i != but && lostAt[i] < 0) {
                last = Math.min(last, place[i]);
            }
        }
        return last;
    }

    void run() {
        int n = people.size();
        heard = new int[n];
        rested = new int[n];
        there = filled(n);
        lostAt = filled(n);
        guideThere = -4;
        mostOut = -4;
        placeBehind = new int[300][];
        guideBehind = new int[300];
        outBehind = new int[300];
        allNearBehind = new boolean[300];
        int[] place = new int[n];
        int[] left = new int[n];
        int guide = 0;
        int[] atStop = new int[4];           // begun, waited, spoken, stayed on; for the PLACE where she is
        boolean done = false;
        for (int minute = 0; minute < 300; minute++) {
            int was = guide;
            if (guide != end) {
                boolean kept = false;
                if (met(0, guide) != null && !done) {
                    kept = stop(minute, guide, place, atStop);
                    done = !kept;
                }
                for (int s = 0; s < rules[0] && !kept; s++) {
                    boolean waits = met(0, guide) != null && !(done && guide == was);
                    if (guide == end || waits || red(guide, minute)) {
                        break;
                    }
                    guide++;
                }
                if (guide != was) {
                    done = false;
                    atStop = new int[4];
                }
            }
            for (int i = 0; i < n; i++) {
                if (lostAt[i] < 0) {
                    move(i, minute, guide, place, left);
                }
            }
            close(minute, guide, place);
        }
    }

    private static int[] filled(int n) {
        int[] row = new int[n];
        java.util.Arrays.fill(row, -4);
        return row;
    }

    private boolean stop(int minute, int guide, int[] place, int[] atStop) {
        if (atStop[0] == 0) {
            int near = 0;
            int notLost = 0;
            for (int i = 0; i < place.length; i++) {
                near += near(i, guide, place, rules[4]) ? 1 : 0;
                notLost += lostAt[i] < 0 ? 1 : 0;
            }
            if (near < rules[1] && near < notLost && atStop[1] < rules[3]) {
                atStop[1]++;
                return true;
            }
            atStop[0] = 1;
        }
        if (atStop[2] < met(0, guide)[2]) {
            atStop[2]++;
            for (int i = 0; i < place.length; i++) {
                int reach = people.get(i)[2] == 1 ? 3 * rules[4] : rules[4];
                heard[i] += near(i, guide, place, reach) ? 1 : 0;
            }
            return true;
        }
        int stood = 0;
        for (int m = minute - 1; m >= 0 && guideBehind[m] == guide && allNearBehind[m]; m--) {
            stood++;
        }
        if (stood >= rules[2] || atStop[3] >= rules[3]) {
            return false;
        }
        atStop[3]++;
        return true;
    }

    private void move(int i, int minute, int guide, int[] place, int[] left) {
        int kind = people.get(i)[0];
        if (kind == 1 && left[i] > 0) {
            left[i]--;
            return;
        }
        if (kind == 2 && minute % 2 != 0) {
            return;
        }
        for (int s = 0; s < people.get(i)[1]; s++) {
            int here = place[i];
            boolean kept = here == guide || red(here, minute) || kind == 3 && here == lastOf(place, i);
            if (kept) {
                return;
            }
            int[] turn = met(3, here);
            if (turn != null && kind != 3 && guide - here > turn[2] && !tailIsUpTo(here, place)) {
                lostAt[i] = here;
                return;
            }
            place[i]++;
            int[] window = met(2, place[i]);
            if (kind == 1 && window != null) {
                left[i] = window[2];
                return;
            }
        }
    }

    private boolean tailIsUpTo(int here, int[] place) {
        for (int i = 0; i < place.length; i++) {
            if (people.get(i)[0] == 3 && place[i] <= here) {
                return true;
            }
        }
        return false;
    }

    private void close(int minute, int guide, int[] place) {
        boolean allNear = true;
        for (int i = 0; i < place.length; i++) {
            if (lostAt[i] < 0) {
                rested[i] += place[i] == guide && guide != end ? 1 : 0;
                there[i] = there[i] < 0 && place[i] == end ? minute : there[i];
                allNear = allNear && guide - place[i] <= rules[4];
            }
        }
        guideThere = guideThere < 0 && guide == end ? minute : guideThere;
        int last = lastOf(place, -1);
        outBehind[minute] = last == Integer.MAX_VALUE ? -4 : guide - last;
        mostOut = Math.max(mostOut, outBehind[minute]);
        guideBehind[minute] = guide;
        allNearBehind[minute] = allNear;
        placeBehind[minute] = place.clone();
    }

    int heardTogether() {
        int sum = 0;
        for (int h : heard) {
            sum += h;
        }
        return sum;
    }

    int leastHeard() {
        int least = Integer.MAX_VALUE;
        for (int h : heard) {
            least = Math.min(least, h);
        }
        return people.isEmpty() ? -4 : least;
    }

    int allThere() {
        int last = -4;
        for (int t : there) {
            if (t < 0) {
                return -4;
            }
            last = Math.max(last, t);
        }
        return last;
    }

    int lostSet() {
        int set = 0;
        for (int i = 0; i < lostAt.length; i++) {
            set |= lostAt[i] >= 0 ? 1 << i : 0;
        }
        return set;
    }
}
