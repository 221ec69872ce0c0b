import java.util.ArrayList;
import java.util.List;
import java.util.regex.Matcher;
import java.util.regex.Pattern;

/**
 * A second program for all calls, read from the document by itself: it keeps nothing that it found, and tries all that
 * there is to try. The MINUTES are those of Plain, whose marks have a fourth number here: the VALUE.
 */
final class Second {
    private static final int BAD = Check.BAD, NOT = Check.NOT, FULL = Check.FULL, NONE = Check.NONE;
    private static final int NULL = Check.NULL, CAST = Check.CAST, INDEX = Check.INDEX, SIZE = Check.SIZE;
    private static final int[] SHORTEST = {1, 2, 1, 1}, LONGEST = {20, 20, 20, 50};
    private static final int[] LEAST_RULES = {1, 0, 0, 0, 1}, MOST_RULES = {4, 10, 9, 30, 20};

    private Plain p = new Plain();
    private int[] signs = new int[144];
    private Plain keptPlain = null;
    private int[] keptSigns = null;
    private String tape = "";
    private final int[][] rows = new int[4][];
    private final int[] lanes = new int[4];

    private static boolean in(int v, int least, int most) {
        return least <= v && v <= most;
    }

    // ---- 1 the way, people

    int end(int v) {
        if (!in(v, 10, 99)) {
            return BAD;
        }
        int was = p.end;
        p.end = v;
        return was;
    }

    private static List<int[]> ofKind(List<int[]> marks, int kind) {
        List<int[]> found = new ArrayList<>();
        for (int[] mark : marks) {
            if (mark[0] == kind) {
                found.add(mark);
            }
        }
        return found;
    }

    private static boolean taken(List<int[]> marks, int kind, int place) {
        for (int[] mark : ofKind(marks, kind)) {
            if (mark[1] == place) {
                return true;
            }
        }
        return false;
    }

    int mark(int kind, int place, int length) {
        if (!in(kind, 0, 3) || !in(place, 0, 99) || !in(length, SHORTEST[kind], LONGEST[kind])) {
            return BAD;
        }
        if (taken(p.marks, kind, place)) {
            return NOT;
        }
        int number = ofKind(p.marks, kind).size();
        if (number == 8) {
            return FULL;
        }
        p.marks.add(new int[] {kind, place, length, 10});
        return number;
    }

    int told(int kind, int mark, int what) {
        List<int[]> of = ofKind(p.marks, kind);
        boolean there = in(mark, 0, of.size() - 1) && in(what, 0, kind == 0 ? 2 : 1);
        return there ? of.get(mark)[what + 1] : BAD;
    }

    int value(int stop, int v) {
        List<int[]> stops = ofKind(p.marks, 0);
        if (!in(stop, 0, stops.size() - 1) || !in(v, 0, 99)) {
            return BAD;
        }
        int was = stops.get(stop)[3];
        stops.get(stop)[3] = v;
        return was;
    }

    private static boolean hasTail(List<int[]> people) {
        for (int[] one : people) {
            if (one[0] == 3) {
                return true;
            }
        }
        return false;
    }

    int person(int kind, int pace, boolean ear) {
        if (!in(kind, 0, 3) || !in(pace, 1, 4)) {
            return BAD;
        }
        if (kind == 3 && hasTail(p.people)) {
            return NOT;
        }
        if (p.people.size() == 10) {
            return FULL;
        }
        p.people.add(new int[] {kind, pace, ear ? 1 : 0});
        return p.people.size() - 1;
    }

    private boolean isPerson(int person) {
        return in(person, 0, p.people.size() - 1);
    }

    int of(int person, int what) {
        return isPerson(person) && in(what, 0, 2) ? p.people.get(person)[what] : BAD;
    }

    int rule(int what, int v) {
        if (!in(what, 0, 4) || !in(v, LEAST_RULES[what], MOST_RULES[what])) {
            return BAD;
        }
        int was = p.rules[what];
        p.rules[what] = v;
        return was;
    }

    int type(long w, int n) {
        if (!in(n, 1, 8)) {
            return BAD;
        }
        String text = "";
        for (int i = 0; i < n; i++) {
            int sign = (int) (w >> 8 * i) & 0xFF;
            if (!in(sign, 32, 126)) {
                return BAD;
            }
            text = (char) sign + text;
        }
        if (tape.length() + n > 80) {
            return FULL;
        }
        tape += text;
        return tape.length();
    }

    /** A text of which pieces are read; behind one that does not fit it knows the first byte that can't stand there. */
    private static final class Text {
        final String text;
        int at = 0;
        int fault = 0;
        int start = 0;

        Text(String text) {
            this.text = text;
        }

        /** The piece, which may have blanks ahead of it; null: something else is there. */
        String piece(String pattern) {
            Matcher m = Pattern.compile(" *(" + pattern + ")").matcher(text).region(at, text.length());
            if (!m.lookingAt()) {
                Matcher blanks = Pattern.compile(" *").matcher(text).region(at, text.length());
                blanks.lookingAt();
                fault = -20 - blanks.end();
                return null;
            }
            start = m.start(1);
            at = m.end();
            return m.group(1);
        }

        /** A number in its bounds; below 0: a FAULT. */
        int number(int least, int most) {
            String digits = piece("[0-9]+");
            if (digits == null) {
                return fault;
            }
            String cut = digits.replaceFirst("^0+(?=.)", "");
            int v = cut.length() > 3 ? 1000 : Integer.parseInt(cut);
            return in(v, least, most) ? v : -20 - start;
        }
    }

    int way() {
        Text text = new Text(tape);
        tape = "";
        List<int[]> read = new ArrayList<>();
        String end = ";";
        while (end.equals(";")) {
            String kindSign = text.piece("[slwt]");
            if (kindSign == null) {
                return text.fault;
            }
            int kind = "slwt".indexOf(kindSign);
            int place = text.number(0, 99);
            if (place < 0) {
                return place;
            }
            if (taken(read, kind, place)) {
                return -20 - text.start;
            }
            if (text.piece(":") == null) {
                return text.fault;
            }
            int length = text.number(SHORTEST[kind], LONGEST[kind]);
            if (length < 0) {
                return length;
            }
            read.add(new int[] {kind, place, length, 10});
            end = text.piece(read.size() < 8 ? ";|$" : "$");
            if (end == null) {
                return text.fault;
            }
        }
        p.marks.clear();
        p.marks.addAll(read);
        return read.size();
    }

    int group() {
        Text text = new Text(tape);
        tape = "";
        List<int[]> read = new ArrayList<>();
        String end = ",";
        while (end.equals(",")) {
            String kind = text.piece(hasTail(read) ? "[plo]" : "[plot]");
            String pace = kind == null ? null : text.piece("[1-4]");
            if (pace == null) {
                return text.fault;
            }
            int ear = text.piece("e") == null ? 0 : 1;
            read.add(new int[] {"plot".indexOf(kind), Integer.parseInt(pace), ear});
            end = text.piece(read.size() < 10 ? ",|$" : "$");
            if (end == null) {
                return text.fault;
            }
        }
        p.people.clear();
        p.people.addAll(read);
        return read.size();
    }

    private List<int[]> stopsMet() {
        List<int[]> met = new ArrayList<>();
        for (int[] stop : ofKind(p.marks, 0)) {
            if (stop[1] < p.end) {
                met.add(stop);
            }
        }
        return met;
    }

    int count(int what) {
        if (!in(what, 0, 5)) {
            return BAD;
        }
        return what == 4 ? p.people.size() : what == 5 ? stopsMet().size() : ofKind(p.marks, what).size();
    }

    // ---- 2 what goes on

    int fate(int person, int what) {
        if (!isPerson(person) || !in(what, 0, 3)) {
            return BAD;
        }
        p.run();
        int[][] told = {p.heard, p.rested, p.there, p.lostAt};
        return told[what][person];
    }

    int at(int minute, int person) {
        if (!in(minute, 0, 299) || person != -1 && person != -2 && !isPerson(person)) {
            return BAD;
        }
        p.run();
        if (person == -2) {
            return p.outBehind[minute];
        }
        return person == -1 ? p.guideBehind[minute] : p.placeBehind[minute][person];
    }

    int all(int what) {
        if (!in(what, 0, 5)) {
            return BAD;
        }
        p.run();
        int[] told = {p.heardTogether(), p.leastHeard(), p.guideThere, p.allThere(), p.mostOut, p.lostSet()};
        return told[what];
    }

    // ---- 3 what would be best

    int best(int minute, int what) {
        if (!in(minute, 0, 299) || !in(what, 0, 3)) {
            return BAD;
        }
        return p.people.isEmpty() ? NOT : rules(p, minute)[what];
    }

    /** THE RULE, by trying all: PACE, BEGIN, STAND, the LEAST OFF; all NONE: by none. */
    private static int[] rules(Plain p, int minute) {
        int[] were = p.rules.clone();
        int[] best = {NONE, NONE, NONE, NONE};
        for (int pace = 1; pace <= 4; pace++) {
            for (int begin = 0; begin <= 10; begin++) {
                for (int stand = 0; stand <= 4; stand++) {
                    p.rules[0] = pace;
                    p.rules[1] = begin;
                    p.rules[2] = stand;
                    p.run();
                    if (p.allThere() >= 0 && p.allThere() <= minute && p.leastHeard() > best[3]) {
                        best = new int[] {pace, begin, stand, p.leastHeard()};
                    }
                }
            }
        }
        System.arraycopy(were, 0, p.rules, 0, 5);
        return best;
    }

    int worth(int person) {
        return isPerson(person) ? worth(p, person) : BAD - 100000;
    }

    static int worth(Plain p, int person) {
        int[] one = p.people.get(person);
        if (one[0] != 3 && one[2] == 0) {
            return NOT - 100000;
        }
        p.run();
        int together = p.heardTogether();
        p.people.set(person, one[0] == 3 ? new int[] {0, one[1], one[2]} : new int[] {one[0], one[1], 0});
        p.run();
        p.people.set(person, one);
        return together - p.heardTogether();
    }

    int chosen(int minutes, int what) {
        if (!in(minutes, 0, 999) || !in(what, 0, 1)) {
            return BAD;
        }
        List<int[]> stops = ofKind(p.marks, 0);
        int[] best = {NONE, NONE};
        for (int set = 0; set < 1 << stops.size(); set++) {
            int time = p.end / p.rules[0] + (p.end % p.rules[0] == 0 ? 0 : 1);
            int sum = 0;
            for (int i = 0; i < stops.size(); i++) {
                if ((set & 1 << i) != 0) {
                    time += stops.get(i)[1] < p.end ? stops.get(i)[2] : 5000;
                    sum += stops.get(i)[3];
                }
            }
            if (time <= minutes && sum > best[1]) {
                best = new int[] {set, sum};
            }
        }
        return best[what];
    }

    static int cost(int n, int k, int c, int m, int e) {
        int cost = 0;
        for (int stop = 1; stop <= n; stop++) {
            cost += stop % k == 0 || stop == n ? 100 * c : 0;
            int found = stop;
            while (found % k != 0 && found != n) {
                found++;
                cost += e * m;
            }
        }
        return cost;
    }

    int counted(int k, int c, int m, int e) {
        if (!in(k, 1, 8) || !in(c, 0, 9) || !in(m, 0, 30) || !in(e, 0, 99)) {
            return BAD;
        }
        return stopsMet().isEmpty() ? NOT : cost(stopsMet().size(), k, c, m, e);
    }

    int often(int c, int m, int e) {
        int best = counted(1, c, m, e) < 0 ? counted(1, c, m, e) : 1;
        for (int k = 2; k <= 8 && best > 0; k++) {
            best = counted(k, c, m, e) < counted(best, c, m, e) ? k : best;
        }
        return best;
    }

    int square(int point, int v) {
        if (!in(point, 0, 143) || !in(v, 0, 2)) {
            return BAD;
        }
        int was = signs[point];
        signs[point] = v;
        return was;
    }

    /** Whether a PILLAR is in the row, the column, the slant between two POINTS. */
    private static boolean hidden(int[] signs, int a, int b) {
        int dx = b % 12 - a % 12;
        int dy = b / 12 - a / 12;
        if (dx != 0 && dy != 0 && Math.abs(dx) != Math.abs(dy)) {
            return false;
        }
        int steps = Math.max(Math.abs(dx), Math.abs(dy));
        for (int s = 1; s < steps; s++) {
            if (signs[12 * (a / 12 + s * dy / steps) + a % 12 + s * dx / steps] == 1) {
                return true;
            }
        }
        return false;
    }

    int stand(int what) {
        if (!in(what, 0, 2)) {
            return BAD;
        }
        int[] told = {0, NONE, NONE};
        for (int point = 0; point < 144; point++) {
            int far = 0;
            boolean all = signs[point] != 1;
            for (int other = 0; other < 144; other++) {
                if (signs[other] == 2) {
                    int off = Math.max(Math.abs(point % 12 - other % 12), Math.abs(point / 12 - other / 12));
                    far = Math.max(far, off);
                    all = all && off <= p.rules[4] && !hidden(signs, point, other);
                }
            }
            if (all) {
                told[0]++;
                if (told[1] < 0 || far < told[2]) {
                    told[1] = point;
                    told[2] = far;
                }
            }
        }
        return told[what];
    }

    int colours(int n, int pairs, int i) {
        if (!in(n, 1, 8) || !in(i, -1, n - 1) || pairs < 0 || pairs >= 1 << n * (n - 1) / 2) {
            return BAD;
        }
        int[] row = firstRow(n, pairs);
        int fewest = 0;
        for (int colour : row) {
            fewest = Math.max(fewest, colour + 1);
        }
        return i == -1 ? fewest : row[i];
    }

    /** Of all rows of one colour, then of two, and so on, the first in which pairs are unlike. */
    private static int[] firstRow(int n, int pairs) {
        int[] row = new int[n];
        for (int most = 1; most <= n; most++) {
            int rows = 1;
            for (int i = 0; i < n; i++) {
                rows *= most;
            }
            for (int number = 0; number < rows; number++) {
                int rest = number;
                for (int i = n - 1; i >= 0; i--) {
                    row[i] = rest % most;
                    rest /= most;
                }
                if (unlike(n, pairs, row)) {
                    return row;
                }
            }
        }
        throw new IllegalStateException();
    }

    private static boolean unlike(int n, int pairs, int[] row) {
        int rest = pairs;
        for (int a = 0; a < n; a++) {
            for (int b = a + 1; b < n; b++) {
                if (rest % 2 == 1 && row[a] == row[b]) {
                    return false;
                }
                rest /= 2;
            }
        }
        return true;
    }

    private static Plain copyOf(Plain from) {
        Plain to = new Plain();
        to.end = from.end;
        for (int[] mark : from.marks) {
            to.marks.add(mark.clone());
        }
        for (int[] one : from.people) {
            to.people.add(one.clone());
        }
        System.arraycopy(from.rules, 0, to.rules, 0, 5);
        return to;
    }

    int image() {
        keptPlain = copyOf(p);
        keptSigns = signs.clone();
        return 1;
    }

    int restore() {
        if (keptPlain == null) {
            return NONE;
        }
        p = copyOf(keptPlain);
        signs = keptSigns.clone();
        return 1;
    }

    // ---- 4 sheets

    private int leastWaited;
    private int[] leastOrder;

    private void tryOrders(int[] items, int from, int[] order, int sent) {
        int n = order.length;
        if (sent == n) {
            int free = 0;
            int waited = 0;
            for (int g : order) {
                int goes = Math.max(free, items[from + 2 * g]);
                waited += goes - items[from + 2 * g];
                free = goes + items[from + 2 * g + 1];
            }
            if (waited < leastWaited) {
                leastWaited = waited;
                leastOrder = order.clone();
            }
            return;
        }
        for (int g = 0; g < n; g++) {
            boolean gone = false;
            for (int k = 0; k < sent; k++) {
                gone = gone || order[k] == g;
            }
            if (!gone) {
                order[sent] = g;
                tryOrders(items, from, order, sent + 1);
            }
        }
    }

    int slots(int sheet, int lane, int i, int n, int k) {
        if (!in(sheet, 0, 3) || !in(lane, 0, 2) || !in(n, 2, 6) || !in(k, -1, n - 1)) {
            return BAD;
        }
        if (rows[sheet] == null) {
            return NULL;
        }
        if (lanes[sheet] != lane) {
            return CAST;
        }
        if (i < 0 || i > rows[sheet].length - 2 * n) {
            return INDEX;
        }
        for (int g = 0; g < n; g++) {
            if (!in(rows[sheet][i + 2 * g], 0, 999) || !in(rows[sheet][i + 2 * g + 1], 1, 99)) {
                return NOT;
            }
        }
        leastWaited = Integer.MAX_VALUE;
        tryOrders(rows[sheet], i, new int[n], 0);
        return k == -1 ? leastWaited : leastOrder[k];
    }

    int sheet(int sheet, int lane, int n) {
        if (!in(sheet, 0, 3) || !in(lane, 0, 2) || n > 24) {
            return BAD;
        }
        if (n < 0) {
            return SIZE;
        }
        rows[sheet] = new int[n];
        lanes[sheet] = lane;
        return n;
    }

    int drop(int sheet) {
        if (!in(sheet, 0, 3)) {
            return BAD;
        }
        if (rows[sheet] == null) {
            return NULL;
        }
        int n = rows[sheet].length;
        rows[sheet] = null;
        return n;
    }

    int item(int sheet, int lane, int i, int v) {
        if (!in(sheet, 0, 3) || !in(lane, 0, 2)) {
            return BAD;
        }
        if (rows[sheet] == null) {
            return NULL;
        }
        if (lanes[sheet] != lane) {
            return CAST;
        }
        if (!in(i, 0, rows[sheet].length - 1)) {
            return INDEX;
        }
        int unused = 32 - (8 << lane);
        rows[sheet][i] = v << unused >> unused;
        return 1;
    }

    int copy(int from, int i, int to, int j, int n) {
        if (!in(from, 0, 3) || !in(to, 0, 3)) {
            return BAD;
        }
        if (rows[from] == null || rows[to] == null) {
            return NULL;
        }
        if (lanes[from] != lanes[to]) {
            return CAST;
        }
        boolean fits = i >= 0 && j >= 0 && n >= 0 && (long) i + n <= rows[from].length
                && (long) j + n <= rows[to].length;
        if (!fits) {
            return INDEX;
        }
        int[] ahead = rows[from].clone();
        for (int k = 0; k < n; k++) {
            rows[to][j + k] = ahead[i + k];
        }
        return n;
    }
}
