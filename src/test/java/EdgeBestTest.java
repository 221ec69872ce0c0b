/** Promises 16 to 20: each sentence that names an edge of what would be best has a test of its own. */
public final class EdgeBestTest {
    private static final int LOW = Check.LOW, HIGH = Check.HIGH, BAD = Check.BAD, NOT = Check.NOT, NONE = Check.NONE;

    public static void main(String[] args) {
        Check c = new Check("EdgeBestTest");
        best(c);
        worth(c);
        chosen(c);
        counted(c);
        often(c);
        c.finish();
    }

    // ---- THE RULE

    private static void best(Check c) {
        bestBounds(c);
        bestRefusals(c);
        bestInTime(c);
        bestInTimeByTheLastMinute(c);
        bestPaces(c);
        bestBegins(c);
        bestStands(c);
        bestFirstByPace(c);
        bestFirstByBegin(c);
        bestFirstByStand(c);
        bestElse(c);
        bestLost(c);
        bestChangesNothing(c);
    }

    private static void rule(Check c, String what, FlagWalk x, int minute, int... due) {
        for (int k = 0; k < 4; k++) {
            c.due(what + ": best(" + minute + ", " + k + ")", x.best(minute, k), due[k]);
        }
    }

    private static void none(Check c, String what, FlagWalk x, int minute) {
        rule(c, what, x, minute, NONE, NONE, NONE, NONE);
    }

    private static void bestBounds(Check c) {
        c.sentence("16 best", "THE RULE for a MINUTE (0 .. 299): PACE (0), BEGIN (1), STAND (2),"
                + " the LEAST OFF (3). BAD;");
        FlagWalk x = new FlagWalk();
        x.person(0, 1, false);
        for (int bad : new int[] {LOW, -1, 300, HIGH}) {
            c.due("best(" + bad + ", 0)", x.best(bad, 0), BAD);
        }
        for (int bad : new int[] {LOW, -1, 4, HIGH}) {
            c.due("best(299, " + bad + ")", x.best(299, bad), BAD);
        }
        none(c, "the first MINUTE", x, 0);
        rule(c, "the last", x, 299, 1, 0, 0, 0);
    }

    private static void bestRefusals(Check c) {
        c.sentence("16 best", "NOT: there is nobody; NONE: by none.");
        FlagWalk x = new FlagWalk();
        rule(c, "nobody", x, 0, NOT, NOT, NOT, NOT);
        rule(c, "nobody", x, 299, NOT, NOT, NOT, NOT);
        x.person(2, 1, false);
        x.mark(1, 0, 2);
        none(c, "one who stays at 0", x, 299);
        c.due("walking as it is", x.all(3), NONE);

        c.sentence("16 best", "of several BAD ahead of all others, then the first that a call names");
        FlagWalk y = new FlagWalk();
        c.due("nobody, no MINUTE", y.best(300, 0), BAD);
        c.due("nobody, no such thing", y.best(0, 4), BAD);
        c.due("by none, no such thing", x.best(299, 4), BAD);
    }

    private static void bestInTime(Check c) {
        c.sentence("16 best", "IN TIME by a MINUTE: all are THERE by it.");
        FlagWalk x = new FlagWalk();
        x.end(10);
        x.person(0, 4, false);
        // 10 by the PACE, cut up, less one.
        rule(c, "PACE 1 is there in 9", x, 9, 1, 0, 0, 0);
        rule(c, "PACE 2 is there in 4", x, 8, 2, 0, 0, 0);
        rule(c, "PACE 2 is there in 4", x, 4, 2, 0, 0, 0);
        rule(c, "PACE 3 is there in 3", x, 3, 3, 0, 0, 0);
        rule(c, "PACE 4 is there in 2", x, 2, 4, 0, 0, 0);
        none(c, "none is there in 1", x, 1);
        x.person(0, 2, false);
        rule(c, "another comes in 4", x, 4, 2, 0, 0, 0);
        none(c, "another comes in 4", x, 3);
        x.mark(2, 1, 20);
        Check.group(x, "l4");
        // At the WINDOW behind 0 .. 20, at 10 behind 23.
        for (int minute = 1; minute <= 22; minute++) {
            none(c, "looking", x, minute);
            c.due("one who looks comes in 23, asked behind " + minute, x.best(23, 2), 0);
        }
        rule(c, "one who looks comes in 23", x, 23, 1, 0, 0, 0);
        FlagWalk y = Check.led(2, 5, 0, 10, 3);
        y.end(10);
        y.mark(0, 0, 5);
        y.person(0, 4, false);
        // She speaks in 0 .. 4 at 0 by each PACE, and by PACE 1 is at 10 behind 14.
        for (int minute = 0; minute <= 4; minute++) {
            none(c, "she speaks", y, minute);
            rule(c, "there in 14, asked behind " + minute, y, 14, 1, 0, 0, 5);
        }
    }

    private static void bestInTimeByTheLastMinute(Check c) {
        c.sentence("16 best", "MINUTES 0 .. 299");
        FlagWalk x = EdgeWalkTest.lateOne();
        rule(c, "there in 299", x, 299, 1, 0, 0, 0);
        none(c, "not by 298", x, 298);
        x.mark(1, 95, 2);
        none(c, "not by 299", x, 299);
    }

    private static void bestPaces(Check c) {
        c.sentence("16 best", "of all PACES 1 .. 4, BEGINS 0 .. 10, STANDS 0 .. 4 those IN TIME");
        FlagWalk x = new FlagWalk();
        x.end(99);
        x.person(0, 4, false);
        rule(c, "99 by 4, cut up, less one", x, 24, 4, 0, 0, 0);
        none(c, "no PACE is more than 4", x, 23);
        rule(c, "99 by 1, less one", x, 98, 1, 0, 0, 0);
        rule(c, "no time for PACE 1", x, 97, 2, 0, 0, 0);
    }

    /** She comes to 6 behind 5 at the earliest; the OLD one is 1 off ahead of 9, and at the END in 18. */
    private static void bestBegins(Check c) {
        c.sentence("16 best", "of all PACES 1 .. 4, BEGINS 0 .. 10, STANDS 0 .. 4 those IN TIME");
        FlagWalk x = Check.led(2, 5, 0, 30, 1);
        x.end(10);
        x.mark(0, 6, 2);
        Check.group(x, "p4,p4,p4,p4,p4,p4,p4,p4,p4,o1");
        rule(c, "BEGIN 10 of ten", x, 18, 1, 10, 0, 2);
        none(c, "the OLD one is not there", x, 17);
        Check.group(x, "p4,o1");
        rule(c, "BEGIN 2 of two", x, 18, 1, 2, 0, 2);
        Check.group(x, "p4,p1");
        rule(c, "BEGIN 0: with PACE 1 both are with her", x, 299, 1, 0, 0, 2);
    }

    private static void bestStands(Check c) {
        c.sentence("16 best", "of all PACES 1 .. 4, BEGINS 0 .. 10, STANDS 0 .. 4 those IN TIME");
        FlagWalk x = Check.led(2, 5, 0, 12, 1);
        x.end(11);
        Check.way(x, "s3:2;s1:2;l1:4");
        Check.group(x, "t2,o3e,p3");
        rule(c, "STAND 4", x, 42, 1, 0, 4, 4);
        FlagWalk y = Check.led(2, 5, 0, 2, 2);
        y.end(14);
        Check.way(y, "s5:2;s11:3");
        Check.group(y, "o1e,t3");
        c.due("STAND 5 is not tried", y.best(33, 3), 4);
        int most = NONE;
        y.rule(2, 5);
        for (int pace = 1; pace <= 4; pace++) {
            for (int begin = 0; begin <= 3; begin++) {
                y.rule(0, pace);
                y.rule(1, begin);
                most = y.all(3) >= 0 && y.all(3) <= 33 ? Math.max(most, y.all(1)) : most;
            }
        }
        c.due("by STAND 5 it would be", most, 5);
    }

    private static void tie(Check c, FlagWalk x, int minute, int least, int... paceBeginStand) {
        for (int r = 0; r < 3; r++) {
            x.rule(r, paceBeginStand[r]);
        }
        c.due("a like one: LEAST OFF", x.all(1), least);
        c.due("a like one: in time", x.all(3) >= 0 && x.all(3) <= minute ? 1 : 0, 1);
    }

    private static void bestFirstByPace(Check c) {
        c.sentence("16 best", "of like ones the first (by PACE, BEGIN, STAND)");
        FlagWalk x = Check.led(2, 5, 0, 3, 1);
        x.end(12);
        Check.way(x, "s4:2");
        Check.group(x, "o2e,p2e,p2,o3");
        rule(c, "PACE 2, BEGIN 3 ahead of PACE 3, BEGIN 0", x, 12, 2, 3, 0, 2);
        tie(c, x, 12, 2, 3, 0, 0);
        tie(c, x, 12, 2, 2, 3, 0);
    }

    private static void bestFirstByBegin(Check c) {
        c.sentence("16 best", "of like ones the first (by PACE, BEGIN, STAND)");
        FlagWalk x = Check.led(2, 5, 0, 3, 1);
        x.end(14);
        Check.way(x, "s9:3;s12:4");
        Check.group(x, "p1,o3e");
        rule(c, "BEGIN 0, STAND 1 ahead of BEGIN 1, STAND 0", x, 14, 3, 0, 1, 2);
        tie(c, x, 14, 2, 3, 1, 0);
        tie(c, x, 14, 2, 3, 0, 1);
    }

    private static void bestFirstByStand(Check c) {
        c.sentence("16 best", "of like ones the first (by PACE, BEGIN, STAND)");
        FlagWalk x = Check.led(4, 10, 4, 30, 3);
        x.mark(0, 5, 4);
        x.person(0, 1, false);
        rule(c, "STAND 0 ahead of all", x, 299, 1, 0, 0, 4);
        tie(c, x, 299, 4, 1, 0, 4);
        tie(c, x, 299, 4, 1, 10, 0);
        tie(c, x, 299, 4, 2, 1, 0);
    }

    private static void bestElse(Check c) {
        c.sentence("16 best", "THE RULE for a MINUTE (all else as it is)");
        FlagWalk x = Check.led(2, 5, 0, 30, 1);
        x.end(10);
        x.mark(0, 6, 2);
        Check.group(x, "p4,o1");
        rule(c, "PATIENCE 30", x, 18, 1, 2, 0, 2);
        x.rule(3, 0);
        // Without PATIENCE she speaks in 6 and 7 at the latest; the OLD one is 3 off then, 2 off ahead of 7.
        rule(c, "PATIENCE 0", x, 18, 1, 0, 0, 0);
        x.rule(4, 2);
        rule(c, "REACH 2", x, 18, 1, 0, 0, 1);
        x.rule(4, 3);
        rule(c, "REACH 3", x, 18, 1, 0, 0, 2);

        c.sentence("16 best", "those at the END or beyond, and WINDOWS at PLACE 0, are not met");
        x.rule(3, 30);
        x.rule(4, 2);
        // By BEGIN 0 he hears one MINUTE of two.
        rule(c, "one STOP", x, 18, 1, 2, 0, 2);
        x.mark(0, 10, 5);
        x.mark(0, 11, 5);
        x.mark(0, 99, 5);
        rule(c, "three more, not met", x, 18, 1, 2, 0, 2);
        Check.way(x, "s1:1;s2:1;s3:1;s4:1;s5:1;s6:1;s7:1;s8:1");
        c.due("eight STOPS, LEAST OFF", x.best(299, 3), 8);
    }

    private static void bestLost(Check c) {
        c.sentence("16 best", "IN TIME by a MINUTE: all are THERE by it.");
        FlagWalk x = new FlagWalk();
        x.end(10);
        x.mark(3, 0, 1);
        Check.group(x, "p1,p4");
        rule(c, "by PACE 1 nobody is LOST", x, 299, 1, 0, 0, 0);
        Check.way(x, "t1:1;w1:2");
        Check.group(x, "l1,p4");
        none(c, "one is LOST by each", x, 299);
        Check.way(x, "t1:1;w1:20");
        none(c, "one is LOST as all others are there", x, 299);
        Check.group(x, "l1");
        none(c, "the only one is LOST as she is there", x, 299);
    }

    private static void bestChangesNothing(Check c) {
        c.sentence("16 best", "THE RULE for a MINUTE (all else as it is)");
        FlagWalk x = Check.led(3, 7, 8, 9, 2);
        x.mark(0, 6, 2);
        x.person(2, 2, true);
        int[] ahead = new int[6];
        for (int what = 0; what < 6; what++) {
            ahead[what] = x.all(what);
        }
        x.best(120, 0);
        for (int what = 0; what < 6; what++) {
            c.due("all(" + what + ")", x.all(what), ahead[what]);
        }
        int[] rules = {3, 7, 8, 9, 2};
        for (int r = 0; r < 5; r++) {
            c.due("rule(" + r + ")", x.rule(r, 1), rules[r]);
        }
    }

    // ---- WORTH

    private static void worth(Check c) {
        worthBounds(c);
        worthNeither(c);
        worthEar(c);
        worthTail(c);
        worthBelowNothing(c);
        worthMinutes(c);
        worthChangesNothing(c);
    }

    private static void worthBounds(Check c) {
        c.sentence("17 worth", "BAD less 100000;");
        FlagWalk x = new FlagWalk();
        for (int bad : new int[] {LOW, -1, 0, HIGH}) {
            c.due("nobody: worth(" + bad + ")", x.worth(bad), -100001);
        }
        for (int i = 0; i < 10; i++) {
            x.person(0, 1, true);
            c.due("the last", x.worth(i), 0);
            c.due("one more", x.worth(i + 1), -100001);
        }
        for (int bad : new int[] {LOW, -1, 10, HIGH}) {
            c.due("worth(" + bad + ")", x.worth(bad), -100001);
        }
    }

    private static void worthNeither(Check c) {
        c.sentence("17 worth", "NOT so: it has neither.");
        for (int kind = 0; kind < 4; kind++) {
            FlagWalk x = new FlagWalk();
            x.person(kind, 1, false);
            x.person(kind == 3 ? 0 : kind, 1, true);
            c.due("without a box, KIND " + kind, x.worth(0), kind == 3 ? 0 : -100002);
            c.due("with a box", x.worth(1), 0);
        }
    }

    private static void worthEar(Check c) {
        c.sentence("17 worth", "HEARD of all together as it is less that without");
        FlagWalk x = Check.led(4, 0, 0, 0, 1);
        x.mark(0, 4, 4);
        Check.group(x, "p1e,p1,p4e");
        // 3, 2, 1 and 0 off ahead of 1 .. 4: 4 with the box, 2 without.
        c.due("the box of one who lags", x.worth(0), 2);
        c.due("the box of one who is there", x.worth(2), 0);
        c.due("together", x.all(0), 10);
    }

    private static void worthTail(Check c) {
        c.sentence("17 worth", "(of THE TAIL, with a box or not: as if it were PLAIN)");
        FlagWalk x = Check.led(4, 0, 0, 0, 5);
        x.mark(3, 0, 3);
        x.mark(0, 4, 3);
        Check.group(x, "p1,t4");
        // Without THE TAIL both are LOST at 0.
        c.due("without a box", x.worth(1), 6);
        FlagWalk y = Check.led(4, 0, 0, 0, 1);
        y.mark(0, 4, 3);
        Check.group(y, "t1e,o1");
        // As PLAIN with its box it is 3, 2, 1 off ahead of 1, 2, 3; as THE TAIL 4, 3, 3. The OLD one is 3, 3, 2 off.
        c.due("with a box, which it keeps", y.worth(0), -1);
        c.due("together", y.all(0), 2);
    }

    private static void worthBelowNothing(Check c) {
        c.sentence("17 worth", "Where a told thing may be below 0, refused ones are 100000 less (-100001 and so on).");
        FlagWalk x = Check.led(4, 0, 0, 0, 1);
        x.mark(0, 4, 3);
        Check.group(x, "t4,o1");
        // THE TAIL stays 3 off at the least; as a PLAIN one it is with her.
        c.due("THE TAIL", x.worth(0), -3);
        c.due("BAD", x.worth(2), -100001);
        c.due("NOT", x.worth(1), -100002);
    }

    private static void worthMinutes(Check c) {
        c.sentence("17 worth", "MINUTES 0 .. 299");
        FlagWalk x = EdgeWalkTest.lateWay(20);
        Check.group(x, "o1,p4e");
        c.due("she speaks from 289 to 299, and is heard without the box", x.worth(1), 0);
        c.due("HEARD", x.fate(1, 0), 131);
        x.person(3, 4, false);
        // As a PLAIN one it is NEAR, the second for BEGIN 2: nothing is waited, and both hear all of 140.
        c.due("THE TAIL, behind the one at 0", x.worth(2), 131 - 280);
        c.due("HEARD", x.all(0), 131);
        FlagWalk y = Check.led(4, 0, 0, 0, 1);
        y.mark(0, 4, 5);
        y.person(2, 1, true);
        // He goes in 0, 2, 4: 3 off ahead of 1, 1 off ahead of 5. She speaks in 1 .. 5.
        c.due("without the box from MINUTE 0 on, too", y.worth(0), 4);
    }

    private static void worthChangesNothing(Check c) {
        c.sentence("17 worth", "as it is less that without");
        FlagWalk x = Check.led(4, 0, 0, 0, 1);
        x.mark(0, 4, 4);
        Check.group(x, "p1e,t4e");
        int together = x.all(0);
        int ear = x.worth(0);
        int tail = x.worth(1);
        c.due("KIND", x.of(1, 0), 3);
        c.due("EAR", x.of(0, 2), 1);
        c.due("EAR of THE TAIL", x.of(1, 2), 1);
        c.due("together", x.all(0), together);
        c.due("again", x.worth(0), ear);
        c.due("again", x.worth(1), tail);
    }

    // ---- CHOSEN STOPS

    private static void chosen(Check c) {
        chosenBounds(c);
        chosenTime(c);
        chosenMet(c);
        chosenLike(c);
        chosenValues(c);
        chosenAll(c);
    }

    private static void chosenBounds(Check c) {
        c.sentence("18 chosen", "CHOSEN STOPS for MINUTES (0 .. 999): the set (0), VALUE (1). BAD;");
        FlagWalk x = new FlagWalk();
        for (int bad : new int[] {LOW, -1, 1000, HIGH}) {
            c.due("chosen(" + bad + ", 0)", x.chosen(bad, 0), BAD);
        }
        for (int bad : new int[] {LOW, -1, 2, HIGH}) {
            c.due("chosen(999, " + bad + ")", x.chosen(999, bad), BAD);
        }
        c.due("chosen(0, 0)", x.chosen(0, 0), NONE);
        c.due("chosen(999, 0)", x.chosen(999, 0), 0);
        c.sentence("18 chosen", "of several BAD ahead of all others, then the first that a call names");
        c.due("no time, no such thing", x.chosen(0, 2), BAD);
    }

    private static void chosenTime(Check c) {
        c.sentence("18 chosen", "NONE: not even without STOPS.");
        FlagWalk x = new FlagWalk();
        int[] end = {10, 40, 99};
        int[][] minutes = {{10, 5, 4, 3}, {40, 20, 14, 10}, {99, 50, 33, 25}};
        for (int i = 0; i < 3; i++) {
            x.end(end[i]);
            for (int pace = 1; pace <= 4; pace++) {
                x.rule(0, pace);
                int time = minutes[i][pace - 1];
                for (int what = 0; what < 2; what++) {
                    c.due("END " + end[i] + ", PACE " + pace + ", a MINUTE too few", x.chosen(time - 1, what), NONE);
                    c.due("END " + end[i] + ", PACE " + pace, x.chosen(time, what), 0);
                }
            }
        }
        c.sentence("18 chosen", "(END by the guide's PACE, cut up) and all LENGTHS are no more");
        x = Check.led(3, 0, 0, 0, 1);
        x.mark(0, 5, 20);
        c.due("14 and 20: a MINUTE too few", x.chosen(33, 0), 0);
        c.due("14 and 20", x.chosen(34, 0), 1);
        x.mark(0, 6, 1);
        c.due("14 and 1: a MINUTE too few", x.chosen(14, 0), 0);
        c.due("14 and 1", x.chosen(15, 0), 2);
        c.due("14 and 21: a MINUTE too few", x.chosen(34, 0), 1);
        c.due("14 and 21", x.chosen(35, 0), 3);
    }

    private static void chosenMet(Check c) {
        c.sentence("18 chosen", "a set of those that are met");
        FlagWalk x = new FlagWalk();
        x.mark(0, 40, 1);
        x.mark(0, 99, 1);
        x.value(0, 99);
        c.due("none is met", x.chosen(999, 0), 0);
        c.due("their VALUE", x.chosen(999, 1), 0);
        x.mark(0, 39, 1);
        c.due("one is met", x.chosen(999, 0), 4);
        x.mark(0, 0, 1);
        c.due("one at 0 too", x.chosen(999, 0), 12);
        x.end(41);
        c.due("one more by a new END", x.chosen(999, 0), 13);
    }

    private static void chosenLike(Check c) {
        c.sentence("18 chosen", "that of most VALUE, of like ones the least set");
        FlagWalk x = new FlagWalk();
        x.mark(0, 5, 2);
        x.mark(0, 6, 2);
        x.mark(0, 7, 2);
        c.due("one of three", x.chosen(22, 0), 1);
        c.due("two of three", x.chosen(24, 0), 3);
        Check.way(x, "s5:1;s6:1;s7:2");
        x.value(2, 20);
        // 20 alone, or 10 and 10 in place of it: the set 3 is less than 4.
        c.due("two of the least numbers, as good as the third", x.chosen(22, 0), 3);
        x.value(2, 21);
        c.due("the third is better", x.chosen(22, 0), 4);
        c.due("VALUE", x.chosen(22, 1), 21);
    }

    private static void chosenValues(Check c) {
        c.sentence("18 chosen", "each has a VALUE (0 .. 99; 10 at first)");
        FlagWalk x = new FlagWalk();
        x.mark(0, 5, 1);
        x.mark(0, 6, 1);
        c.due("10 and 10", x.chosen(999, 1), 20);
        x.value(0, 0);
        c.due("one of VALUE 0 is left out", x.chosen(999, 0), 2);
        x.value(1, 0);
        c.due("none", x.chosen(999, 0), 0);
        c.due("VALUE", x.chosen(999, 1), 0);
        x.value(0, 1);
        c.due("VALUE 1", x.chosen(999, 0), 1);
        x.value(1, 99);
        c.due("99 and 1", x.chosen(999, 1), 100);
        c.due("99", x.chosen(21, 0), 2);
    }

    private static void chosenAll(Check c) {
        c.sentence("18 chosen", "Sets are bits.");
        FlagWalk x = new FlagWalk();
        for (int i = 0; i < 8; i++) {
            x.mark(0, 39 - i, 20);
            x.value(i, 99);
        }
        c.due("all eight", x.chosen(180, 0), 255);
        c.due("VALUE", x.chosen(180, 1), 792);
        c.due("seven", x.chosen(179, 0), 127);
        x.value(3, 98);
        c.due("all but the one with number 3", x.chosen(179, 0), 247);
    }

    // ---- COUNTED, OFTEN

    private static FlagWalk withStops(int n) {
        FlagWalk x = new FlagWalk();
        for (int i = 0; i < n; i++) {
            x.mark(0, 30 - i, 1);
        }
        return x;
    }

    private static void counted(Check c) {
        c.sentence("19 counted", "k 1 .. 8");
        FlagWalk x = withStops(8);
        for (int bad : new int[] {LOW, -1, 0, 9, HIGH}) {
            c.due("counted(" + bad + ", 1, 1, 1)", x.counted(bad, 1, 1, 1), BAD);
        }
        c.due("k 1", x.counted(1, 1, 1, 1), 800);
        // 7 + 6 + .. + 0 STOPS later.
        c.due("k 8", x.counted(8, 1, 1, 1), 128);

        c.sentence("19 counted", "cost (c 0 .. 9, m 0 .. 30, e 0 .. 99)");
        for (int bad : new int[] {LOW, -1, HIGH}) {
            c.due("c " + bad, x.counted(1, bad, 1, 1), BAD);
            c.due("m " + bad, x.counted(1, 1, bad, 1), BAD);
            c.due("e " + bad, x.counted(1, 1, 1, bad), BAD);
        }
        c.due("c 10", x.counted(1, 10, 1, 1), BAD);
        c.due("m 31", x.counted(1, 1, 31, 1), BAD);
        c.due("e 100", x.counted(1, 1, 1, 100), BAD);
        c.due("the most of all", x.counted(8, 9, 30, 99), 84060);
        c.due("c 0", x.counted(8, 0, 30, 99), 83160);
        c.due("m 0", x.counted(8, 9, 0, 99), 900);
        c.due("e 0", x.counted(8, 9, 30, 0), 900);
        c.due("nothing costs", x.counted(8, 0, 0, 0), 0);

        c.sentence("19 counted", "NOT: no STOP is met.");
        c.due("none", withStops(0).counted(1, 1, 1, 1), NOT);
        FlagWalk y = new FlagWalk();
        y.mark(0, 40, 1);
        c.due("one at the END", y.counted(1, 1, 1, 1), NOT);
        c.due("BAD ahead of NOT", y.counted(9, 1, 1, 1), BAD);
        y.mark(0, 39, 1);
        c.due("one ahead of it", y.counted(1, 1, 1, 1), 100);

        c.sentence("19 counted", "COUNTED at each k-th STOP (k 1 .. 8) of the n that are met, and at the last:"
                + " as many times as n by k, cut up");
        int[] times = {8, 4, 3, 2, 2, 2, 2, 1};
        for (int k = 1; k <= 8; k++) {
            c.due("8 by " + k + ", cut up", x.counted(k, 1, 0, 0), 100 * times[k - 1]);
        }
        for (int n = 1; n <= 8; n++) {
            c.due("at the last of " + n + " alone", withStops(n).counted(8, 1, 0, 0), 100);
        }

        c.sentence("19 counted", "one lost at a STOP is found at the first count there or behind");
        // By k: 0; 1 in each pair; 2 + 1, 2 + 1, 1; ..
        int[] later = {0, 4, 7, 12, 13, 16, 21, 28};
        for (int k = 1; k <= 8; k++) {
            c.due("STOPS later, k " + k, x.counted(k, 0, 1, 1), later[k - 1]);
        }
        c.due("one STOP", withStops(1).counted(8, 0, 30, 99), 0);
        c.due("three STOPS, k 8", withStops(3).counted(8, 0, 1, 1), 3);
    }

    private static void often(Check c) {
        c.sentence("20 often", "OFTEN. BAD;");
        FlagWalk x = withStops(8);
        for (int bad : new int[] {LOW, -1, HIGH}) {
            c.due("c " + bad, x.often(bad, 1, 1), BAD);
            c.due("m " + bad, x.often(1, bad, 1), BAD);
            c.due("e " + bad, x.often(1, 1, bad), BAD);
        }
        c.due("c 10", x.often(10, 1, 1), BAD);
        c.due("m 31", x.often(1, 31, 1), BAD);
        c.due("e 100", x.often(1, 1, 100), BAD);
        // By k 900 (8, 4, 3, 2, 2, 2, 2, 1) + 2970 (0, 4, 7, 12, ..).
        c.due("the most of all", x.often(9, 30, 99), 1);

        c.sentence("20 often", "NOT: no STOP is met.");
        c.due("none", withStops(0).often(1, 1, 1), NOT);
        FlagWalk y = new FlagWalk();
        y.mark(0, 40, 1);
        c.due("one at the END", y.often(1, 1, 1), NOT);
        c.due("BAD ahead of NOT", y.often(10, 1, 1), BAD);
        y.mark(0, 39, 1);
        c.due("one ahead of it", y.often(1, 1, 1), 1);

        c.sentence("20 often", "k with the least cost, of like ones the least");
        c.due("nothing costs", x.often(0, 0, 0), 1);
        c.due("counting costs nothing", x.often(0, 1, 1), 1);
        c.due("being lost costs nothing: once of 8", x.often(1, 0, 1), 8);
        for (int n = 1; n <= 8; n++) {
            c.due("being lost costs nothing: once of " + n, withStops(n).often(9, 30, 0), n);
        }
        // 800, 400 + 4 em, 300 + 7 em, 200 + 12 em, .. 100 + 28 em.
        c.due("em 99: 800 of k 1, 796 of k 2", x.often(1, 1, 99), 2);
        c.due("em 100: 800 of k 1 and of k 2", x.often(1, 10, 10), 1);
        c.due("em 6: 272 of k 4, 268 of k 8", x.often(1, 1, 6), 8);
        c.due("em 7: 284 of k 4, 296 of k 8", x.often(1, 1, 7), 4);
        c.due("em 20: 440 of k 3 and of k 4", x.often(1, 20, 1), 3);
    }
}
