/** Promises 16 to 20: THE RULE, WORTH, CHOSEN STOPS, COUNTED, OFTEN. */
public final class BestTest {
    private static final int LOW = Check.LOW, HIGH = Check.HIGH;

    public static void main(String[] args) {
        Check c = new Check("BestTest");
        bestByHand(c);
        bestStands(c);
        bestIsSoughtAnew(c);
        bestByTrying(c);
        worthByHand(c);
        worthByTrying(c);
        chosen(c);
        counted(c);
        c.finish();
    }

    private static void bestByHand(Check c) {
        FlagWalk x = new FlagWalk();
        for (int what = 0; what < 4; what++) {
            c.due("nobody", x.best(50, what), -2);
            c.due("nobody by 0", x.best(0, what), -2);
        }
        for (int bad : new int[] {LOW, -1, 300, HIGH}) {
            c.due("best(" + bad + "), nobody", x.best(bad, 0), -1);
        }
        for (int bad : new int[] {LOW, -1, 4, HIGH}) {
            c.due("best what " + bad, x.best(5, bad), -1);
        }
        x.end(10);
        x.person(0, 4, false);
        int[] minutes = {9, 4, 3, 2};
        for (int pace = 1; pace <= 4; pace++) {
            c.due("in time by " + minutes[pace - 1], x.best(minutes[pace - 1], 0), pace);
            c.due("BEGIN", x.best(minutes[pace - 1], 1), 0);
            c.due("STAND", x.best(minutes[pace - 1], 2), 0);
            c.due("LEAST OFF", x.best(minutes[pace - 1], 3), 0);
        }
        for (int what = 0; what < 4; what++) {
            c.due("by none", x.best(1, what), -4);
            c.due("by none by 0", x.best(0, what), -4);
        }
        c.due("BAD", x.best(300, 0), -1);
        x.mark(3, 0, 1);
        x.person(0, 1, false);
        c.due("a TURN: she goes 1", x.best(299, 0), 1);
        c.due("the rule stays", x.rule(0, 2), 2);
        x = new FlagWalk();
        x.end(10);
        x.rule(4, 1);
        x.mark(0, 5, 1);
        x.mark(0, 9, 3);
        x.person(0, 1, false);
        x.person(2, 2, false);
        c.due("LEAST OFF", x.best(299, 3), 4);
        x.end(99);
        Check.way(x, "s1:1;s2:1;s3:1;s4:1;s5:1;s6:1;s7:1;s98:1");
        c.due("eight STOPS", x.best(299, 3), 8);
    }

    /** STANDS up to 4 are tried, and no others. */
    private static void bestStands(Check c) {
        FlagWalk x = new FlagWalk();
        x.end(11);
        x.rule(3, 12);
        x.rule(4, 1);
        Check.way(x, "s3:2;s1:2;l1:4");
        Check.group(x, "t2,o3e,p3");
        int[] due = {1, 0, 4, 4};
        for (int what = 0; what < 4; what++) {
            c.due("STAND 4: best(42, " + what + ")", x.best(42, what), due[what]);
        }
        x = new FlagWalk();
        x.end(14);
        x.rule(3, 2);
        x.rule(4, 2);
        Check.way(x, "s5:2;s11:3");
        Check.group(x, "o1e,t3");
        c.due("without STAND 5", x.best(33, 3), 4);
        x.rule(2, 5);
        int most = -4;
        for (int pace = 1; pace <= 4; pace++) {
            for (int begin = 0; begin <= 3; begin++) {
                x.rule(0, pace);
                x.rule(1, begin);
                most = x.all(3) >= 0 && x.all(3) <= 33 ? Math.max(most, x.all(1)) : most;
            }
        }
        c.due("with STAND 5 it would be", most, 5);
    }

    /** Asked for one MINUTE ahead of and behind each call that changes what is best. */
    private static void bestIsSoughtAnew(Check c) {
        FlagWalk x = new FlagWalk();
        x.rule(4, 2);
        x.image();
        c.due("nobody", x.best(60, 3), -2);
        x.person(0, 2, false);
        c.due("nothing spoken", x.best(60, 3), 0);
        x.mark(0, 5, 4);
        c.due("a STOP", x.best(60, 3), 4);
        x.end(99);
        c.due("too far for PACE 1", x.best(60, 0), 2);
        Check.way(x, "s5:6");
        c.due("a new way", x.best(60, 3), 6);
        Check.group(x, "p1");
        c.due("a slow one", x.best(60, 3), -4);
        x.end(10);
        c.due("not so far", x.best(60, 0), 1);
        x.person(2, 1, false);
        x.rule(3, 0);
        c.due("one more, without PATIENCE", x.best(60, 3), 6);
        x.rule(4, 1);
        // The OLD one is at 3 behind 4 and 5, at 4 behind 6: of 5 .. 10 it hears 7 .. 10.
        c.due("less REACH", x.best(60, 3), 4);
        x.restore();
        c.due("nobody", x.best(60, 3), -2);
        x.person(0, 1, false);
        c.due("nothing spoken", x.best(60, 3), 0);
    }

    /** All that THE RULE tells, by setting each and asking the walk. */
    private static int[] tried(Plain p, int minute) {
        int[] best = {-4, -4, -4, -4};
        for (int pace = 1; pace <= 4; pace++) {
            FlagWalk x = p.made();
            for (int begin = 0; begin <= 10; begin++) {
                for (int stand = 0; stand <= 4; stand++) {
                    x.rule(0, pace);
                    x.rule(1, begin);
                    x.rule(2, stand);
                    int there = x.all(3);
                    if (there >= 0 && there <= minute && x.all(1) > best[3]) {
                        best = new int[] {pace, begin, stand, x.all(1)};
                    }
                }
            }
        }
        return best;
    }

    private static void bestByTrying(Check c) {
        for (int seed = 1; seed <= 250; seed++) {
            Check.Row row = new Check.Row(20000 + seed);
            Plain p = Plain.some(row);
            if (p.people.isEmpty()) {
                p.people.add(new int[] {0, 2, 0});
            }
            FlagWalk x = p.made();
            int minute = row.once(4) ? 299 : row.between(10, 120);
            int[] due = tried(p, minute);
            c.due("seed " + seed + " walk ahead", x.all(0), p.made().all(0));
            int first = row.between(0, 3);
            for (int k = 0; k < 4; k++) {
                int what = (first + k) % 4;
                c.due("seed " + seed + " best(" + minute + ", " + what + ")", x.best(minute, what), due[what]);
            }
            int other = row.between(10, 120);
            int[] dueOther = tried(p, other);
            c.due("seed " + seed + " best(" + other + ", 3)", x.best(other, 3), dueOther[3]);
            c.due("seed " + seed + " walk behind", x.all(0), p.made().all(0));
            for (int r = 0; r < 5; r++) {
                c.due("seed " + seed + " rule " + r, x.rule(r, p.rules[r]), p.rules[r]);
            }
            c.due("seed " + seed + " best again", x.best(minute, 3), due[3]);
            p.rules[4] = 1 + p.rules[4] % 6;
            p.people.remove(0);
            p.people.add(new int[] {1, 1, 1});
            StringBuilder text = new StringBuilder();
            for (int[] one : p.people) {
                text.append(text.length() == 0 ? "" : ",").append("plot".charAt(one[0])).append(one[1]);
                text.append(one[2] == 1 ? "e" : "");
            }
            Check.group(x, text.toString());
            x.rule(4, p.rules[4]);
            int[] changed = tried(p, minute);
            for (int what = 0; what < 4; what++) {
                c.due("seed " + seed + " changed best " + what, x.best(minute, what), changed[what]);
            }
        }
    }

    private static void worthByHand(Check c) {
        FlagWalk x = new FlagWalk();
        for (int bad : new int[] {LOW, -1, 0, 10, HIGH}) {
            c.due("worth of nobody " + bad, x.worth(bad), -100001);
        }
        x.rule(0, 4);
        x.rule(1, 0);
        x.rule(4, 1);
        x.mark(0, 4, 4);
        x.person(0, 1, true);
        x.person(0, 1, false);
        c.due("the box", x.worth(0), 2);
        c.due("neither", x.worth(1), -100002);
        c.due("BAD", x.worth(2), -100001);
        c.due("the box is still there", x.of(0, 2), 1);
        c.due("the box again", x.worth(0), 2);
        c.due("HEARD", x.all(0), 6);
        x = new FlagWalk();
        x.rule(0, 4);
        x.rule(1, 0);
        x.rule(4, 5);
        x.mark(3, 0, 3);
        x.mark(0, 4, 3);
        x.person(0, 1, false);
        x.person(3, 4, false);
        // With THE TAIL both hear all 3; without, the PLAIN ones are LOST at 0.
        c.due("THE TAIL", x.worth(1), 6);
        c.due("neither", x.worth(0), -100002);
        c.due("THE TAIL is still there", x.of(1, 0), 3);
    }

    private static void worthByTrying(Check c) {
        int below = 0;
        for (int seed = 1; seed <= 400; seed++) {
            Check.Row row = new Check.Row(40000 + seed);
            Plain p = Plain.some(row);
            FlagWalk x = p.made();
            p.run();
            int together = p.heardTogether();
            for (int i = 0; i < p.people.size(); i++) {
                int due = Second.worth(p, i);
                below += due < 0 && due > -100000 ? 1 : 0;
                c.due("seed " + seed + " worth(" + i + ")", x.worth(i), due);
            }
            c.due("seed " + seed + " HEARD as it was", x.all(0), together);
        }
        c.due("some are worth less than nothing", below > 0 ? 1 : 0, 1);
    }

    private static void chosen(Check c) {
        FlagWalk x = new FlagWalk();
        for (int bad : new int[] {LOW, -1, 1000, HIGH}) {
            c.due("chosen(" + bad + ")", x.chosen(bad, 0), -1);
        }
        for (int bad : new int[] {LOW, -1, 2, HIGH}) {
            c.due("chosen what " + bad, x.chosen(5, bad), -1);
        }
        c.due("no time, BAD", x.chosen(0, 2), -1);
        x.rule(0, 3);
        c.due("40 by 3, cut up, is 14", x.chosen(13, 0), -4);
        c.due("VALUE too", x.chosen(13, 1), -4);
        c.due("without STOPS", x.chosen(14, 1), 0);
        x.mark(0, 40, 1);
        x.mark(0, 10, 5);
        x.mark(0, 5, 5);
        x.mark(0, 20, 5);
        c.due("of like ones the least set", x.chosen(19, 0), 2);
        c.due("not one that is not met", x.chosen(999, 0), 14);
        c.due("VALUE", x.chosen(999, 1), 30);
        x.value(3, 11);
        c.due("of most VALUE", x.chosen(23, 0), 8);
        c.due("two", x.chosen(24, 0), 10);
        c.due("VALUE of two", x.chosen(24, 1), 21);
        x.value(1, 0);
        c.due("one of no VALUE is left out", x.chosen(999, 0), 12);
        x.end(41);
        c.due("met then", x.chosen(999, 0), 13);
        for (int seed = 1; seed <= 300; seed++) {
            chosenSeed(c, new Check.Row(60000 + seed), "seed " + seed);
        }
    }

    private static void chosenSeed(Check c, Check.Row row, String what) {
        FlagWalk x = new FlagWalk();
        Second y = new Second();
        int end = row.between(10, 99);
        int pace = row.between(1, 4);
        x.end(end);
        y.end(end);
        x.rule(0, pace);
        y.rule(0, pace);
        int n = row.between(0, 8);
        for (int i = 0; i < n; i++) {
            int place = 10 * i + row.between(0, 9);
            int length = row.between(1, 20);
            int value = row.between(0, 12);
            x.mark(0, place, length);
            y.mark(0, place, length);
            x.value(i, value);
            y.value(i, value);
        }
        int minutes = row.between(0, 150);
        c.due(what + " the set", x.chosen(minutes, 0), y.chosen(minutes, 0));
        c.due(what + " VALUE", x.chosen(minutes, 1), y.chosen(minutes, 1));
    }

    private static void counted(Check c) {
        c.due("no STOP is met", withStops(0).counted(1, 1, 1, 1), -2);
        c.due("no STOP is met", withStops(0).often(1, 1, 1), -2);
        for (int n = 0; n <= 8; n++) {
            FlagWalk x = withStops(n);
            for (int bad : new int[] {LOW, -1, HIGH}) {
                c.due("k " + bad, x.counted(bad, 1, 1, 1), -1);
                c.due("c " + bad, x.counted(1, bad, 1, 1), -1);
                c.due("m " + bad, x.counted(1, 1, bad, 1), -1);
                c.due("e " + bad, x.counted(1, 1, 1, bad), -1);
                c.due("often c " + bad, x.often(bad, 1, 1), -1);
                c.due("often m " + bad, x.often(1, bad, 1), -1);
                c.due("often e " + bad, x.often(1, 1, bad), -1);
            }
            c.due("k 0", x.counted(0, 1, 1, 1), -1);
            c.due("k 9", x.counted(9, 1, 1, 1), -1);
            c.due("c 10", x.counted(8, 10, 1, 1), -1);
            c.due("m 31", x.counted(8, 1, 31, 1), -1);
            c.due("e 100", x.counted(8, 1, 1, 100), -1);
            c.due("often c 10", x.often(10, 1, 1), -1);
            c.due("often m 31", x.often(1, 31, 1), -1);
            c.due("often e 100", x.often(1, 1, 100), -1);
            if (n > 0) {
                countedOf(c, n);
            }
        }
    }

    /** So many STOPS are met; of eight one was not, ahead of a new END. */
    private static FlagWalk withStops(int n) {
        FlagWalk x = new FlagWalk();
        x.mark(0, 45, 1);
        for (int i = 0; i < n && i < 7; i++) {
            x.mark(0, 30 - i, 1);
        }
        if (n == 8) {
            x.end(46);
        }
        return x;
    }

    private static void countedOf(Check check, int n) {
        for (int c = 0; c <= 9; c++) {
            for (int m = 0; m <= 30; m += 5) {
                for (int e = 0; e <= 99; e++) {
                    FlagWalk x = withStops(n);
                    int often = 1;
                    for (int k = 1; k <= 8; k++) {
                        check.due(n + " STOPS, k " + k, x.counted(k, c, m, e), Second.cost(n, k, c, m, e));
                        often = Second.cost(n, k, c, m, e) < Second.cost(n, often, c, m, e) ? k : often;
                    }
                    check.due(n + " STOPS, often " + c + " " + m + " " + e, x.often(c, m, e), often);
                }
            }
        }
    }
}
