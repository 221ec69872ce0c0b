/**
 * All promises at once: long runs of calls of every kind, each answered by a second program, too. What one call leaves
 * behind for others (or must not) is seen here.
 */
public final class RunsTest {
    // One round makes at most some 15 calls; behind the 512th nothing is promised.
    private static final int RUNS = 300, CALLS = 490;
    private static final int[] LONGEST = {20, 20, 20, 50};

    private final Check.Row row;
    private final FlagWalk x = new FlagWalk();
    private final Second y = new Second();
    private final Check c;
    private final int seed;
    private int calls = 0;

    private RunsTest(Check c, int seed) {
        this.c = c;
        this.seed = seed;
        this.row = new Check.Row(700000 + seed);
    }

    public static void main(String[] args) {
        Check c = new Check("RunsTest");
        for (int seed = 1; seed <= RUNS; seed++) {
            RunsTest run = new RunsTest(c, seed);
            for (int round = 0; round < 2 * CALLS && run.calls < CALLS; round++) {
                run.some();
            }
        }
        c.finish();
    }

    private void due(String call, int got, int want) {
        calls++;
        c.due("run " + seed + ", call " + calls + ": " + call, got, want);
    }

    /** Most often a number in its bounds, now and then a wild one. */
    private int v(int least, int most) {
        return row.once(30) ? row.wild() : row.between(least, most);
    }

    private void some() {
        switch (row.between(0, 9)) {
            case 0:
            case 1:
                tellWay();
                break;
            case 2:
                tellText();
                break;
            case 3:
                tellSheet();
                break;
            case 4:
                askTold();
                break;
            case 5:
                askSheet();
                break;
            case 6:
                askBest();
                break;
            default:
                askWalk();
                break;
        }
    }

    private void tellWay() {
        int a;
        int b;
        switch (row.between(0, 8)) {
            case 0:
                a = v(10, row.once(3) ? 99 : 45);
                due("end(" + a + ")", x.end(a), y.end(a));
                break;
            case 1:
            case 2:
                tellMark();
                break;
            case 3:
            case 4:
                tellPerson();
                break;
            case 5:
                a = v(0, 4);
                b = v(0, row.once(3) ? 20 : 6);
                due("rule(" + a + ", " + b + ")", x.rule(a, b), y.rule(a, b));
                break;
            case 6:
                a = v(0, 7);
                b = v(0, 99);
                due("value(" + a + ", " + b + ")", x.value(a, b), y.value(a, b));
                break;
            case 7:
                tellSquare();
                break;
            default:
                tellImage();
                break;
        }
    }

    private void tellMark() {
        int kind = v(0, 3);
        int place = v(0, row.once(5) ? 99 : 40);
        int length = v(1, row.once(3) && kind >= 0 && kind < 4 ? LONGEST[kind] : 6);
        due("mark(" + kind + ", " + place + ", " + length + ")", x.mark(kind, place, length),
                y.mark(kind, place, length));
    }

    private void tellPerson() {
        int kind = v(0, 3);
        int pace = v(1, 4);
        boolean ear = row.once(2);
        due("person(" + kind + ", " + pace + ", " + ear + ")", x.person(kind, pace, ear), y.person(kind, pace, ear));
    }

    private void tellSquare() {
        int point = row.once(2) ? v(0, 143) : 12 * row.between(3, 6) + row.between(3, 6);
        int sign = row.once(3) ? 0 : v(0, 2);
        due("square(" + point + ", " + sign + ")", x.square(point, sign), y.square(point, sign));
    }

    private void tellImage() {
        if (row.once(2)) {
            due("image()", x.image(), y.image());
        } else if (row.once(2)) {
            due("restore()", x.restore(), y.restore());
        }
    }

    private void tellText() {
        if (row.once(12)) {
            long w = row.next();
            int n = v(1, 8);
            due("type(" + w + ", " + n + ")", x.type(w, n), y.type(w, n));
        }
        boolean way = row.once(2);
        String text = way ? wayText() : groupText();
        if (row.once(2) && !text.isEmpty()) {
            int at = row.between(0, text.length() - 1);
            String sign = "" + "slwtpoe:;, 0123456789x".charAt(row.between(0, 21));
            text = text.substring(0, at) + (row.once(3) ? "" : sign) + text.substring(at + row.between(0, 1));
        }
        for (int from = 0; from < text.length(); from += 8) {
            int n = Math.min(8, text.length() - from);
            long w = Check.packed(text.substring(from, from + n));
            due("type of \"" + text + "\"", x.type(w, n), y.type(w, n));
        }
        if (row.once(9)) {
            return;
        }
        if (way != row.once(20)) {
            due("way() behind \"" + text + "\"", x.way(), y.way());
        } else {
            due("group() behind \"" + text + "\"", x.group(), y.group());
        }
    }

    private String blank() {
        return row.once(8) ? row.once(2) ? " " : "  " : "";
    }

    private String number(int least, int most) {
        return blank() + (row.once(10) ? "00" : "") + row.between(least, row.once(8) ? most + 1 : most) + blank();
    }

    private String wayText() {
        int n = row.once(8) ? 9 : row.between(1, row.once(3) ? 8 : 5);
        StringBuilder text = new StringBuilder();
        for (int i = 0; i < n; i++) {
            int kind = row.between(0, 3);
            int longest = row.once(3) ? LONGEST[kind] : 5;
            text.append(i == 0 ? "" : ";").append(blank()).append("slwt".charAt(kind));
            text.append(number(0, row.once(8) ? 99 : 38)).append(":").append(number(kind == 1 ? 2 : 1, longest));
        }
        return text.toString();
    }

    private String groupText() {
        int n = row.once(8) ? 11 : row.between(1, row.once(3) ? 10 : 5);
        StringBuilder text = new StringBuilder();
        for (int i = 0; i < n; i++) {
            text.append(i == 0 ? "" : ",").append(blank()).append("ploplopt".charAt(row.between(0, 7))).append(blank());
            text.append(row.between(1, row.once(20) ? 9 : 4)).append(blank()).append(row.once(3) ? "e" : "");
        }
        return text.append(blank()).toString();
    }

    private void makeSheet(int sheet, int lane, int n) {
        due("sheet(" + sheet + ", " + lane + ", " + n + ")", x.sheet(sheet, lane, n), y.sheet(sheet, lane, n));
    }

    private void putItem(int sheet, int lane, int i, int v) {
        due("item(" + sheet + ", " + lane + ", " + i + ", " + v + ")", x.item(sheet, lane, i, v),
                y.item(sheet, lane, i, v));
    }

    private void tellSheet() {
        int a = v(0, row.once(3) ? 3 : 1);
        int lane = v(0, row.once(4) ? 2 : 0);
        int i = v(0, row.once(3) ? 23 : 6);
        int n;
        switch (row.between(0, 5)) {
            case 0:
                n = row.between(4, 13);
                makeSheet(a, lane, n);
                for (int k = 0; k < n; k++) {
                    putItem(a, lane, k, row.between(1, 30));
                }
                break;
            case 1:
                int to = v(0, row.once(3) ? 3 : 1);
                int j = v(0, 12);
                n = v(0, 12);
                due("copy(" + a + ", " + i + ", " + to + ", " + j + ", " + n + ")", x.copy(a, i, to, j, n),
                        y.copy(a, i, to, j, n));
                break;
            case 2:
                if (row.once(5)) {
                    due("drop(" + a + ")", x.drop(a), y.drop(a));
                }
                break;
            case 3:
                if (row.once(2)) {
                    makeSheet(a, lane, v(0, 24));
                }
                break;
            default:
                putItem(a, lane, i, row.once(4) ? (int) row.next() : v(1, 40));
                break;
        }
    }

    private void askSheet() {
        int sheet = v(0, row.once(3) ? 3 : 1);
        int lane = v(0, row.once(4) ? 2 : 0);
        int i = v(0, row.once(3) ? 12 : 2);
        int n = v(2, row.once(3) ? 6 : 3);
        int k = v(-1, Math.max(1, Math.min(n, 6) - 1));
        due("slots(" + sheet + ", " + lane + ", " + i + ", " + n + ", " + k + ")", x.slots(sheet, lane, i, n, k),
                y.slots(sheet, lane, i, n, k));
    }

    private void askTold() {
        int a = v(0, 3);
        int b = v(0, 7);
        int d = v(0, 2);
        switch (row.between(0, 4)) {
            case 0:
                due("told(" + a + ", " + b + ", " + d + ")", x.told(a, b, d), y.told(a, b, d));
                break;
            case 1:
                due("of(" + b + ", " + d + ")", x.of(b, d), y.of(b, d));
                break;
            case 2:
                a = v(0, 5);
                due("count(" + a + ")", x.count(a), y.count(a));
                break;
            case 3:
                due("stand(" + d + ")", x.stand(d), y.stand(d));
                break;
            default:
                a = v(1, row.once(9) ? 8 : 5);
                b = v(0, a > 1 && a <= 8 ? (1 << a * (a - 1) / 2) - 1 : 1);
                d = v(-1, 4);
                due("colours(" + a + ", " + b + ", " + d + ")", x.colours(a, b, d), y.colours(a, b, d));
                break;
        }
    }

    private void askBest() {
        int a = v(0, 9);
        int b = v(0, 30);
        int d = v(0, 99);
        switch (row.between(0, 4)) {
            case 0:
                if (row.once(7)) {
                    a = row.once(2) ? 299 : v(0, 150);
                    b = v(0, 3);
                    due("best(" + a + ", " + b + ")", x.best(a, b), y.best(a, b));
                }
                break;
            case 1:
                due("worth(" + a + ")", x.worth(a), y.worth(a));
                break;
            case 2:
                a = v(0, row.once(3) ? 999 : 70);
                b = v(0, 1);
                due("chosen(" + a + ", " + b + ")", x.chosen(a, b), y.chosen(a, b));
                break;
            case 3:
                int k = v(1, 8);
                due("counted(" + k + ", " + a + ", " + b + ", " + d + ")", x.counted(k, a, b, d),
                        y.counted(k, a, b, d));
                break;
            default:
                due("often(" + a + ", " + b + ", " + d + ")", x.often(a, b, d), y.often(a, b, d));
                break;
        }
    }

    private void askWalk() {
        int a = v(0, 5);
        int b = v(0, 3);
        switch (row.between(0, 2)) {
            case 0:
                due("fate(" + a + ", " + b + ")", x.fate(a, b), y.fate(a, b));
                break;
            case 1:
                int minute = v(0, row.once(4) ? 299 : 40);
                int who = v(-2, 5);
                due("at(" + minute + ", " + who + ")", x.at(minute, who), y.at(minute, who));
                break;
            default:
                due("all(" + a + ")", x.all(a), y.all(a));
                break;
        }
    }
}
