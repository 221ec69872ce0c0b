/**
 * Promises 13 to 15, with part 2 of the Terms: each sentence that names an edge of what goes on has a test of its own.
 * One whom nothing lets go on, where a test needs one, is an OLD one at a LIGHT of LENGTH 2: that is red in all even
 * MINUTES. The others, and the guide, leave it in MINUTE 1.
 */
public final class EdgeWalkTest {
    private static final int LOW = Check.LOW, HIGH = Check.HIGH, BAD = Check.BAD, NONE = Check.NONE;

    public static void main(String[] args) {
        Check c = new Check("EdgeWalkTest");
        minutes(c);
        way(c);
        begins(c);
        speaks(c);
        done(c);
        goes(c);
        people(c);
        kinds(c);
        turns(c);
        tails(c);
        behindAll(c);
        fate(c);
        at(c);
        all(c);
        c.finish();
    }

    // ---- MINUTES, the way

    private static void minutes(Check c) {
        minutesFirst(c);
        minutesLastOfGuide(c);
        minutesLastOfPeople(c);
        minutesLastHeard(c);
    }

    private static void minutesFirst(Check c) {
        c.sentence("14 at", "all are at PLACE 0 ahead of MINUTE 0");
        FlagWalk x = Check.led(1, 0, 0, 10, 3);
        x.person(0, 1, false);
        c.due("the guide behind MINUTE 0", x.at(0, -1), 1);
        c.due("one behind MINUTE 0", x.at(0, 0), 1);
        x.mark(0, 0, 1);
        c.due("she speaks at 0 in MINUTE 0", x.at(0, -1), 0);
        c.due("it is HEARD", x.fate(0, 0), 1);
        c.due("and goes on in MINUTE 1", x.at(1, -1), 1);
    }

    /**
     * END 99, PACE 1, BEGIN 2: she leaves 0 in MINUTE 1, waits 10 for the one at 0 at each STOP and speaks 20 at six
     * of them: she comes to 98 behind 97 + 1 + 180 = 278, waits till 288, and BEGINS in 289.
     */
    static FlagWalk lateWay(int lastLength) {
        FlagWalk x = Check.led(1, 2, 0, 10, 1);
        x.end(99);
        x.mark(1, 0, 2);
        for (int i = 1; i <= 6; i++) {
            x.mark(0, 10 * i, 20);
        }
        x.mark(0, 98, lastLength);
        x.person(2, 1, false);
        x.person(0, 4, false);
        return x;
    }

    private static void minutesLastOfGuide(Check c) {
        c.sentence("15 all", "2 when she is at the END (NONE: not by 299)");
        c.due("in MINUTE 299", lateWay(10).all(2), 299);
        c.due("at 98 behind 298", lateWay(10).at(298, -1), 98);
        FlagWalk late = lateWay(11);
        c.due("not by 299", late.all(2), NONE);
        late.rule(3, 0);
        c.due("without PATIENCE 70 MINUTES less", late.all(2), 230);
        c.due("at 98 behind 299", lateWay(11).at(299, -1), 98);
    }

    private static void minutesLastOfPeople(Check c) {
        c.sentence("13 fate", "THERE is one from when it is at the END (NONE: not by 299).");
        c.due("in MINUTE 299", lateWay(10).fate(1, 2), 299);
        c.due("not by 299", lateWay(11).fate(1, 2), NONE);
        c.due("who stays at 0", lateWay(10).fate(0, 2), NONE);
        c.due("she alone is there by 299", lateWay(10).all(3), NONE);
    }

    private static void minutesLastHeard(Check c) {
        c.sentence("13 fate", "MINUTES 0 .. 299");
        c.due("120 and those from 289 to 299", lateWay(20).fate(1, 0), 131);
        c.due("120 and those from 289 to 298", lateWay(10).fate(1, 0), 130);
        c.due("RESTED behind 1 .. 299", lateWay(20).fate(1, 1), 300);
    }

    private static void way(Check c) {
        wayLights(c);
        wayLightsCut(c);
        wayNotMet(c);
        wayWindowAtZero(c);
    }

    /** One LIGHT at PLACE 0: she leaves it in the first MINUTE in which it is not red. */
    private static void wayLights(Check c) {
        c.sentence("15 all", "red in the first half, cut, of each so many MINUTES, from MINUTE 0 on");
        for (int length = 2; length <= 20; length++) {
            FlagWalk x = Check.led(1, 0, 0, 10, 3);
            x.mark(1, 0, length);
            int half = length / 2;
            c.due("LENGTH " + length + ", behind " + (half - 1), x.at(half - 1, -1), 0);
            c.due("LENGTH " + length + ", behind " + half, x.at(half, -1), 1);
        }
    }

    private static void wayLightsCut(Check c) {
        c.sentence("15 all", "if that, as a remainder by its LENGTH, is below half of it (cut)");
        FlagWalk x = Check.led(1, 0, 0, 10, 3);
        x.mark(1, 5, 5);
        // At 5 behind 4; red in 5 and 6.
        c.leaves("LENGTH 5", x, 5, 7);
        x = Check.led(1, 0, 0, 10, 3);
        x.mark(1, 5, 3);
        // Red in 0 and 3, not in 5.
        c.leaves("LENGTH 3", x, 5, 5);
        x = Check.led(1, 0, 0, 10, 3);
        x.mark(1, 6, 3);
        // Red in 6.
        c.leaves("LENGTH 3", x, 6, 7);
        x = Check.led(1, 0, 0, 10, 3);
        x.mark(1, 20, 20);
        // Red in 20 .. 29.
        c.leaves("LENGTH 20", x, 20, 30);
        x = Check.led(1, 0, 0, 10, 3);
        x.mark(1, 19, 20);
        c.leaves("LENGTH 20, in the last of twenty MINUTES", x, 19, 19);
    }

    private static void wayNotMet(Check c) {
        c.sentence("15 all", "those at the END or beyond, and WINDOWS at PLACE 0, are not met");
        FlagWalk x = Check.led(1, 0, 0, 10, 3);
        x.end(10);
        x.person(0, 1, true);
        x.mark(0, 10, 5);
        x.mark(0, 11, 5);
        c.due("she is at the END", x.all(2), 9);
        c.due("nothing is HEARD", x.all(0), 0);
        x.mark(0, 9, 5);
        c.due("one a PLACE ahead is met", x.all(2), 14);
        c.due("and HEARD", x.all(0), 5);
        x.end(11);
        c.due("by a new END", x.all(2), 20);
        c.due("HEARD", x.all(0), 10);
    }

    private static void wayWindowAtZero(Check c) {
        c.sentence("14 at", "WINDOWS at PLACE 0, are not met");
        FlagWalk x = Check.led(4, 0, 0, 10, 3);
        x.mark(2, 0, 20);
        x.person(1, 4, false);
        c.places("LOOKING", x, 0, 4, 8, 12);
    }

    // ---- 1 THE GUIDE: BEGIN

    private static void begins(Check c) {
        beginAsMany(c);
        beginNone(c);
        beginAllNotLost(c);
        beginNotLost(c);
        beginReach(c);
        beginPatience(c);
        beginOnce(c);
        beginEars(c);
        beginNobody(c);
    }

    /** A STOP at 4 of LENGTH 1: she is there behind 0, one with her; one more is NEAR ahead of 3, one ahead of 5. */
    private static void beginAsMany(Check c) {
        c.sentence("15 all", "if as many as BEGIN (or all that are not LOST) are NEAR");
        int[] leaves = {2, 2, 4, 6, 6};
        for (int begin = 0; begin <= 4; begin++) {
            FlagWalk x = Check.led(4, begin, 0, 30, 1);
            x.mark(0, 4, 1);
            x.person(0, 4, false);
            x.person(0, 1, false);
            x.person(2, 1, false);
            c.leaves("BEGIN " + begin, x, 4, leaves[begin]);
            c.due("BEGIN " + begin + " HEARD", x.all(0), Math.max(1, Math.min(begin, 3)));
        }
        FlagWalk ten = Check.led(4, 10, 0, 30, 1);
        ten.mark(0, 4, 1);
        Check.group(ten, "p4,p4,p4,p4,p4,p4,p4,p4,p4,p1");
        c.leaves("BEGIN 10 of ten", ten, 4, 4);
        ten.rule(1, 9);
        c.leaves("BEGIN 9 of ten", ten, 4, 2);
    }

    private static void beginNone(Check c) {
        c.sentence("15 all", "1 BEGIN (0 .. 10; 5)");
        FlagWalk x = Check.led(4, 0, 0, 30, 1);
        x.mark(1, 0, 2);
        x.mark(0, 4, 1);
        x.person(2, 1, false);
        // At 4 behind 1.
        c.leaves("BEGIN 0, nobody NEAR", x, 4, 3);
        x.rule(1, 1);
        c.leaves("BEGIN 1, nobody NEAR", x, 4, 33);
    }

    /** One falls behind and is LOST at 2 in MINUTE 4, 6 off the STOP at 8; one comes with the guide. */
    private static FlagWalk withALostOne(int begin, int stand, int patience, int reach) {
        FlagWalk x = Check.led(1, begin, stand, patience, reach);
        x.mark(3, 2, 1);
        x.mark(0, 8, 1);
        x.person(2, 1, true);
        x.person(0, 1, false);
        return x;
    }

    private static void beginAllNotLost(Check c) {
        c.sentence("15 all", "(or all that are not LOST)");
        FlagWalk x = withALostOne(2, 0, 30, 20);
        c.due("LOST", x.all(5), 1);
        // At 8 behind 7.
        c.leaves("one NEAR, BEGIN 2", x, 8, 9);
        x.rule(1, 10);
        c.leaves("one NEAR, BEGIN 10", x, 8, 9);
        x.person(2, 4, false);
        x.mark(1, 1, 2);
        // The third leaves 0 for 1 in 0, and never that.
        c.leaves("one of two NEAR, BEGIN 10", x, 8, 9);
        x.rule(4, 6);
        c.leaves("the other is 7 off", x, 8, 39);
        FlagWalk y = Check.led(1, 10, 0, 30, 20);
        y.mark(1, 0, 3);
        y.mark(3, 0, 1);
        y.mark(0, 4, 1);
        y.person(2, 1, false);
        y.person(0, 1, false);
        // The LIGHT is red in 0 and 3: the OLD one would go in 2, as she is at 2. She is at 4 behind 4.
        c.due("LOST at 0", y.fate(0, 3), 0);
        c.leaves("one NEAR, BEGIN 10", y, 4, 6);
    }

    /** One looks at 2, where a TURN is, till 6, and is LOST in 7, as she speaks at 4 from 5 on; one stays at 0. */
    private static void beginOnce(Check c) {
        c.sentence("15 all", "If she has BEGUN and spoken fewer than LENGTH MINUTES there: she speaks one, and stays");
        FlagWalk x = Check.led(1, 2, 0, 30, 2);
        x.mark(1, 0, 2);
        x.mark(2, 2, 4);
        x.mark(3, 2, 1);
        x.mark(0, 4, 5);
        x.person(1, 1, false);
        x.person(0, 1, false);
        x.person(2, 1, false);
        c.leaves("of two NEAR one is LOST as she speaks", x, 4, 10);
        c.due("what the LOST one HEARD", x.fate(0, 0), 3);
        c.due("what the other HEARD", x.fate(1, 0), 5);
        c.due("LOST", x.all(5), 1);
    }

    private static void beginNotLost(Check c) {
        c.sentence("15 all", "NEAR (not LOST, no more than REACH away)");
        FlagWalk x = Check.led(1, 2, 0, 4, 6);
        x.mark(1, 1, 2);
        x.mark(2, 2, 3);
        x.mark(3, 2, 1);
        x.mark(0, 8, 1);
        x.person(1, 1, false);
        x.person(0, 1, false);
        x.person(2, 1, false);
        c.due("LOST at the WINDOW at 2", x.fate(0, 3), 2);
        c.due("stays at 1", x.at(299, 2), 1);
        // The LOST one is 6 off, the OLD one 7: of BEGIN 2 there is one. She waits in 8 .. 11.
        c.leaves("one LOST within REACH", x, 8, 13);
        c.due("it hears nothing", x.fate(0, 0), 0);
        c.due("one hears", x.fate(1, 0), 1);
    }

    private static void beginReach(Check c) {
        c.sentence("15 all", "NEAR (not LOST, no more than REACH away)");
        int[] leaves = {0, 4, 3, 2, 2};
        for (int reach = 1; reach <= 4; reach++) {
            FlagWalk x = Check.led(4, 1, 0, 30, reach);
            x.mark(0, 4, 1);
            x.person(0, 1, false);
            // 3 off ahead of 1, 2 off ahead of 2, 1 off ahead of 3.
            c.leaves("REACH " + reach, x, 4, leaves[reach]);
        }
        for (int off = 20; off <= 21; off++) {
            FlagWalk x = Check.led(4, 1, 0, 30, 20);
            x.mark(1, 0, 2);
            x.mark(0, off, 1);
            x.person(2, 1, false);
            int comes = (off + 3) / 4;
            c.leaves("REACH 20, " + off + " off", x, off, off == 20 ? comes + 2 : comes + 32);
        }
    }

    private static void beginPatience(Check c) {
        c.sentence("15 all", "or she has waited PATIENCE MINUTES there; else she waits (one MINUTE more) and stays");
        for (int patience : new int[] {0, 1, 2, 29, 30}) {
            FlagWalk x = Check.led(4, 1, 0, patience, 1);
            x.mark(1, 0, 2);
            x.mark(0, 4, 1);
            x.mark(0, 6, 1);
            x.person(2, 1, false);
            // At 4 behind 1, where she waits, speaks one MINUTE, and leaves in 3; then the same at 6.
            c.leaves("PATIENCE " + patience, x, 4, 3 + patience);
            c.leaves("PATIENCE " + patience + " at the next STOP", x, 6, 5 + 2 * patience);
        }
    }

    private static void beginEars(Check c) {
        c.sentence("15 all", "who is NEAR (with an EAR box: no more than 3 REACH away) HEARS it");
        FlagWalk x = Check.led(4, 1, 0, 30, 1);
        x.mark(0, 4, 5);
        x.person(0, 1, true);
        // 3 off ahead of 1, with a box; 1 off ahead of 3: she speaks in 3 .. 7.
        c.leaves("the box makes nobody NEAR", x, 4, 8);
    }

    private static void beginNobody(Check c) {
        c.sentence("15 all", "(or all that are not LOST) are NEAR");
        FlagWalk x = Check.led(4, 10, 9, 30, 1);
        x.mark(0, 4, 9);
        // She speaks in 1 .. 9; STOOD is 10 ahead of 10.
        c.leaves("nobody, BEGIN 10, STAND 9", x, 4, 10);
        FlagWalk y = Check.led(4, 10, 9, 30, 1);
        y.mark(3, 0, 1);
        y.mark(0, 4, 9);
        y.person(0, 1, false);
        c.leaves("all LOST, BEGIN 10, STAND 9", y, 4, 10);
    }

    // ---- 1 THE GUIDE: speaking

    private static void speaks(Check c) {
        speaksInThisMinute(c);
        speaksLength(c);
        speaksNear(c);
        speaksEars(c);
        speaksNotLost(c);
    }

    private static void speaksInThisMinute(Check c) {
        c.sentence("13 fate", "she BEGINS (and goes on as below in this MINUTE)");
        FlagWalk x = Check.led(4, 0, 0, 0, 1);
        x.mark(0, 4, 1);
        x.person(0, 4, false);
        c.places("speaks in 1, goes on in 2", x, -1, 4, 4, 8);
        c.due("HEARD", x.fate(0, 0), 1);
    }

    private static void speaksLength(Check c) {
        c.sentence("13 fate", "If she has BEGUN and spoken fewer than LENGTH MINUTES there: she speaks one, and stays");
        for (int length : new int[] {1, 2, 19, 20}) {
            FlagWalk x = Check.led(4, 0, 0, 0, 1);
            x.mark(0, 4, length);
            x.mark(0, 6, length);
            x.person(0, 4, false);
            c.leaves("LENGTH " + length, x, 4, 1 + length);
            c.leaves("LENGTH " + length + " again", x, 6, 2 + 2 * length);
            c.due("LENGTH " + length + " HEARD", x.fate(0, 0), 2 * length);
        }
    }

    private static FlagWalk oneFarOff(int off, int reach, boolean ear) {
        FlagWalk x = Check.led(4, 0, 0, 0, reach);
        x.end(99);
        x.mark(1, 0, 2);
        x.mark(0, off, 3);
        x.person(2, 1, ear);
        return x;
    }

    private static void speaksNear(Check c) {
        c.sentence("13 fate", "no more than REACH away");
        c.due("1 off, REACH 1", oneFarOff(1, 1, false).fate(0, 0), 3);
        c.due("2 off, REACH 1", oneFarOff(2, 1, false).fate(0, 0), 0);
        c.due("20 off, REACH 20", oneFarOff(20, 20, false).fate(0, 0), 3);
        c.due("21 off, REACH 20", oneFarOff(21, 20, false).fate(0, 0), 0);
    }

    private static void speaksEars(Check c) {
        c.sentence("13 fate", "(with an EAR box: no more than 3 REACH away)");
        c.due("3 off, REACH 1", oneFarOff(3, 1, true).fate(0, 0), 3);
        c.due("4 off, REACH 1", oneFarOff(4, 1, true).fate(0, 0), 0);
        c.due("60 off, REACH 20", oneFarOff(60, 20, true).fate(0, 0), 3);
        c.due("61 off, REACH 20", oneFarOff(61, 20, true).fate(0, 0), 0);
    }

    private static void speaksNotLost(Check c) {
        c.sentence("13 fate", "NEAR (not LOST, no more than REACH away)");
        FlagWalk x = withALostOne(0, 0, 0, 20);
        c.due("a LOST one, 6 off", x.fate(0, 0), 0);
        c.due("one with the guide", x.fate(1, 0), 1);
    }

    // ---- 1 THE GUIDE: when the STOP is DONE

    private static void done(Check c) {
        doneByStand(c);
        doneFromWhenSheCame(c);
        doneByThisStop(c);
        doneWithLostOnes(c);
        doneReach(c);
        doneByPatience(c);
        doneApart(c);
        doneOnce(c);
    }

    private static void doneByStand(Check c) {
        c.sentence("15 all", "Else the STOP is DONE, if STOOD is STAND or more");
        for (int stand = 0; stand <= 9; stand++) {
            FlagWalk x = Check.led(4, 0, stand, 30, 1);
            x.mark(0, 4, 1);
            x.person(0, 1, false);
            // NEAR behind 2 and from there on: ahead of m STOOD is m - 2. She speaks in 1.
            c.leaves("STAND " + stand, x, 4, 2 + stand);
        }
    }

    private static void doneFromWhenSheCame(Check c) {
        c.sentence("15 all", "STOOD: in how many MINUTES up to the one ahead, one behind the other");
        for (int stand = 0; stand <= 9; stand++) {
            FlagWalk x = Check.led(4, 0, stand, 30, 1);
            x.mark(0, 4, 1);
            x.person(0, 4, false);
            // NEAR behind 0, in which she came, and from there on: ahead of m STOOD is m. She speaks in 1.
            c.leaves("STAND " + stand, x, 4, Math.max(2, stand));
        }
        FlagWalk y = Check.led(4, 0, 2, 30, 1);
        y.mark(0, 0, 1);
        // At PLACE 0 ahead of MINUTE 0 is behind no MINUTE.
        c.leaves("a STOP at 0, STAND 2", y, 0, 2);
    }

    private static void doneByThisStop(Check c) {
        c.sentence("15 all", "in which she was at this STOP behind all");
        FlagWalk x = Check.led(4, 0, 3, 30, 1);
        x.mark(0, 4, 1);
        x.mark(0, 5, 1);
        x.person(0, 4, false);
        c.leaves("the first, STOOD behind 0, 1, 2", x, 4, 3);
        c.leaves("the next, STOOD behind 3, 4, 5", x, 5, 6);
    }

    private static void doneWithLostOnes(Check c) {
        c.sentence("15 all", "all that are not LOST were NEAR behind all");
        // The LOST one is 6 off: she is at 8 behind 7, and STOOD is 2 ahead of 9.
        c.leaves("a LOST one does not keep her", withALostOne(0, 2, 30, 1), 8, 9);
        FlagWalk x = Check.led(4, 0, 2, 30, 1);
        x.mark(3, 1, 2);
        x.mark(2, 1, 3);
        x.mark(0, 4, 1);
        x.person(1, 1, false);
        x.person(0, 4, false);
        // At the WINDOW behind 0 .. 3, LOST in 4: STOOD is 2 ahead of 6.
        c.leaves("counted from when the far one is LOST", x, 4, 6);
    }

    private static void doneReach(Check c) {
        c.sentence("15 all", "all that are not LOST were NEAR behind all");
        FlagWalk x = Check.led(4, 0, 1, 30, 20);
        x.mark(1, 0, 2);
        x.mark(0, 20, 1);
        x.person(2, 1, false);
        x.person(0, 4, false);
        // At 20 behind 5.
        c.leaves("20 off is NEAR", x, 20, 7);
        x.rule(4, 19);
        c.leaves("of two one is not NEAR", x, 20, 37);
    }

    private static void doneByPatience(Check c) {
        c.sentence("15 all", "or she has stayed on PATIENCE MINUTES there; else she stays on (one MINUTE more)");
        for (int patience : new int[] {0, 1, 2, 29, 30}) {
            FlagWalk x = Check.led(4, 0, 9, patience, 1);
            x.mark(1, 0, 2);
            x.mark(0, 4, 1);
            x.mark(0, 6, 1);
            x.person(2, 1, false);
            // At 4 behind 1, speaks in 2; then the same at 6.
            c.leaves("PATIENCE " + patience, x, 4, 3 + patience);
            c.leaves("PATIENCE " + patience + " at the next STOP", x, 6, 5 + 2 * patience);
        }
    }

    private static void doneApart(Check c) {
        c.sentence("15 all", "she has stayed on PATIENCE MINUTES there");
        FlagWalk x = Check.led(4, 1, 9, 2, 1);
        x.mark(1, 0, 2);
        x.mark(0, 4, 1);
        x.person(2, 1, false);
        // Waits in 2 and 3, speaks in 4, stays on in 5 and 6.
        c.leaves("what she has waited is not what she has stayed on", x, 4, 7);
    }

    private static void doneOnce(Check c) {
        c.sentence("15 all", "At a STOP that is not DONE");
        FlagWalk x = Check.led(4, 0, 0, 30, 1);
        x.mark(0, 0, 1);
        x.mark(1, 0, 20);
        x.person(0, 1, false);
        // DONE in 1, kept by the LIGHT to 9.
        c.leaves("a DONE STOP at a red LIGHT", x, 0, 10);
        c.due("she has spoken once", x.fate(0, 0), 1);
    }

    // ---- 1 THE GUIDE: going

    private static void goes(Check c) {
        c.sentence("14 at", "she goes PLACE by PLACE, PACE times, but not off the END");
        for (int pace = 1; pace <= 4; pace++) {
            FlagWalk x = Check.led(pace, 0, 0, 10, 3);
            x.end(10);
            c.due("PACE " + pace + " behind 0", x.at(0, -1), pace);
            c.due("PACE " + pace + ", at the END", x.all(2), (10 + pace - 1) / pace - 1);
            c.due("PACE " + pace + " behind 299", x.at(299, -1), 10);
        }

        c.sentence("14 at", "1 THE GUIDE, till she is at the END.");
        FlagWalk there = Check.led(4, 0, 9, 30, 3);
        there.end(12);
        there.mark(0, 12, 20);
        there.person(0, 4, false);
        c.places("she stays", there, -1, 4, 8, 12, 12, 12);
        there.end(99);
        there.end(12);
        c.places("as ahead of another END", there, -1, 4, 8, 12, 12, 12);

        c.sentence("14 at", "but not off the END, a STOP that is not DONE, a red LIGHT");
        FlagWalk x = Check.led(4, 0, 0, 10, 3);
        x.mark(0, 3, 1);
        x.mark(0, 4, 1);
        c.places("STOPS", x, -1, 3, 3, 4, 4, 8);
        x = Check.led(4, 0, 0, 10, 3);
        x.mark(1, 2, 2);
        x.mark(1, 5, 3);
        // Of 2: red in 0, 2; of 3: red in 0, 3.
        c.places("LIGHTS", x, -1, 2, 6, 10);
        x = Check.led(4, 0, 0, 10, 3);
        x.mark(2, 2, 20);
        x.mark(3, 3, 1);
        c.places("no WINDOW, no TURN keeps her", x, -1, 4, 8, 12);
    }

    // ---- 2 PEOPLE

    private static void people(Check c) {
        c.sentence("14 at", "but not off the guide's PLACE (as it is now)");
        FlagWalk x = Check.led(1, 0, 0, 10, 3);
        for (int i = 0; i < 10; i++) {
            x.person(i % 2, 1 + i % 4, false);
        }
        x.mark(0, 2, 2);
        // She is at 2 behind 1, speaks in 2 and 3.
        for (int i = 0; i < 10; i++) {
            c.places("with the guide", x, i, 1, 2, 2, 2, 3);
        }

        c.sentence("14 at", "Each other one goes PLACE by PLACE, PACE times");
        for (int pace = 1; pace <= 4; pace++) {
            x = Check.led(4, 0, 0, 10, 3);
            x.person(0, pace, false);
            c.places("PACE " + pace, x, 0, pace, 2 * pace, 3 * pace);
        }

        c.sentence("14 at", "but not off the guide's PLACE (as it is now), a red LIGHT");
        x = Check.led(4, 0, 0, 10, 3);
        x.mark(1, 4, 4);
        x.person(0, 1, false);
        x.person(0, 3, false);
        // Red in 0, 1, 4, 5.
        c.places("comes to a red LIGHT", x, 0, 1, 2, 3, 4, 4, 4, 5);
        c.places("goes past a LIGHT that is not red", x, 1, 3, 4, 7, 10);

        c.sentence("14 at", "PEOPLE, by numbers, who are not LOST");
        x = Check.led(4, 0, 0, 10, 3);
        x.mark(3, 1, 1);
        x.person(0, 1, false);
        c.due("LOST at 1", x.fate(0, 3), 1);
        c.places("stays there", x, 0, 1, 1, 1, 1);
        c.due("to the last MINUTE", x.at(299, 0), 1);
    }

    private static void kinds(Check c) {
        c.sentence("14 at", "A LOOKING one that comes to a WINDOW goes no farther in this MINUTE,"
                + " and has LENGTH MINUTES left there.");
        for (int length : new int[] {1, 2, 20}) {
            FlagWalk x = Check.led(4, 0, 0, 10, 3);
            x.mark(2, 1, length);
            x.person(1, 4, false);
            c.due("LENGTH " + length + " behind 0", x.at(0, 0), 1);
            c.due("LENGTH " + length + " behind " + length, x.at(length, 0), 1);
            c.due("LENGTH " + length + " behind " + (length + 1), x.at(length + 1, 0), 5);
        }
        FlagWalk y = Check.led(4, 0, 0, 10, 3);
        y.mark(2, 1, 1);
        y.mark(2, 2, 2);
        y.person(1, 4, false);
        c.places("WINDOW behind WINDOW", y, 0, 1, 1, 2, 2, 2, 6);

        c.sentence("14 at", "A LOOKING one that has MINUTES left at a WINDOW stays one of them.");
        y = Check.led(1, 0, 0, 10, 3);
        y.mark(2, 3, 4);
        y.person(1, 1, false);
        // There behind 2, with 4 left: one in each of 3 .. 6.
        c.places("4 MINUTES", y, 0, 1, 2, 3, 3, 3, 3, 3, 4);

        c.sentence("14 at", "1 LOOKING (stays at each WINDOW)");
        y = Check.led(4, 0, 0, 10, 3);
        y.mark(2, 1, 20);
        Check.group(y, "p4,l4,o4");
        c.places("PLAIN", y, 0, 4, 8);
        c.places("LOOKING", y, 1, 1, 1);
        c.places("OLD", y, 2, 4, 4, 8);
        y = Check.led(4, 0, 0, 10, 3);
        y.mark(2, 1, 20);
        y.person(3, 4, false);
        c.places("THE TAIL", y, 0, 4, 8);

        c.sentence("14 at", "An OLD one stands in odd MINUTES.");
        y = Check.led(4, 0, 0, 10, 3);
        y.person(2, 4, false);
        y.person(2, 1, false);
        c.places("PACE 4", y, 0, 4, 4, 8, 8, 12);
        c.places("PACE 1", y, 1, 1, 1, 2, 2, 3);
    }

    private static void turns(Check c) {
        turnLength(c);
        turnLongest(c);
        turnNothingElse(c);
        turnForGood(c);
        turnAtTheWay(c);
    }

    private static void turnLength(Check c) {
        c.sentence("13 fate", "is LOST there (for good), if the guide is more than its LENGTH ahead");
        for (int length = 1; length <= 5; length++) {
            FlagWalk x = Check.led(4, 0, 0, 10, 3);
            x.mark(3, 0, length);
            x.person(0, 1, false);
            // She is 4 ahead as he would go.
            c.due("LENGTH " + length, x.fate(0, 3), length < 4 ? 0 : NONE);
        }
    }

    /** One at a WINDOW from MINUTE 0 on goes off it as the guide, of PACE 3, is 50 or 51 ahead. */
    private static void turnLongest(Check c) {
        c.sentence("13 fate", "3 TURNS (a LENGTH, 1 .. 50)");
        FlagWalk x = Check.led(3, 0, 0, 10, 3);
        x.end(99);
        x.mark(2, 1, 15);
        x.mark(3, 1, 50);
        x.person(1, 4, false);
        c.due("in 16 she is at 51: 50 ahead", x.fate(0, 3), NONE);
        FlagWalk y = Check.led(3, 0, 0, 10, 3);
        y.end(99);
        y.mark(2, 3, 16);
        y.mark(3, 3, 50);
        y.person(1, 4, false);
        c.due("in 17 she is at 54: 51 ahead", y.fate(0, 3), 3);
    }

    /** Of a single one OUT tells whether it is LOST: then it is NONE. */
    private static void turnNothingElse(Check c) {
        c.sentence("14 at", "as it would go off it (nothing else keeping it)");
        FlagWalk x = Check.led(4, 0, 0, 10, 3);
        x.mark(1, 4, 4);
        x.mark(3, 4, 1);
        x.person(0, 1, false);
        c.places("a red LIGHT keeps it in 4 and 5", x, -2, 3, 2, 5, 8, 12, 16, NONE);
        x = Check.led(4, 0, 0, 10, 3);
        x.mark(3, 1, 1);
        x.person(2, 1, false);
        c.places("an OLD one in 1", x, -2, 3, 7, NONE);
        x = Check.led(4, 0, 0, 10, 3);
        x.mark(3, 1, 1);
        x.person(0, 1, false);
        c.places("its PACE is over in 0", x, -2, 3, NONE);
        x = Check.led(4, 0, 0, 10, 3);
        x.mark(2, 1, 2);
        x.mark(3, 1, 1);
        x.person(1, 4, false);
        c.places("a LOOKING one at a WINDOW in 0 .. 2", x, -2, 3, 7, 11, NONE);
        x = Check.led(4, 0, 0, 10, 3);
        x.mark(3, 4, 1);
        x.person(0, 4, false);
        c.due("at the guide's PLACE", x.at(0, -2), 0);
        c.due("and with her then: not LOST", x.fate(0, 3), 4);
    }

    private static void turnForGood(Check c) {
        c.sentence("13 fate", "is LOST there (for good)");
        FlagWalk x = Check.led(4, 0, 0, 10, 3);
        x.mark(3, 2, 1);
        x.mark(3, 0, 20);
        x.person(0, 1, false);
        c.due("at the second TURN", x.fate(0, 3), 2);
        c.due("never THERE", x.fate(0, 2), NONE);
        c.due("its PLACE at last", x.at(299, 0), 2);
        c.due("while she is at the END", x.at(299, -1), 40);
    }

    private static void turnAtTheWay(Check c) {
        c.sentence("13 fate", "those at the END or beyond, and WINDOWS at PLACE 0, are not met");
        FlagWalk x = Check.led(4, 0, 0, 10, 3);
        x.end(10);
        x.mark(3, 10, 1);
        x.mark(3, 11, 1);
        x.mark(3, 99, 1);
        x.person(0, 1, false);
        c.due("nobody is LOST", x.fate(0, 3), NONE);
        c.due("all are THERE", x.all(3), 9);
    }

    private static void tails(Check c) {
        c.sentence("15 all", "3 THE TAIL (never LOST; one at the most)");
        FlagWalk x = Check.led(4, 0, 0, 10, 3);
        x.mark(3, 0, 1);
        x.mark(3, 1, 1);
        x.mark(3, 2, 1);
        x.person(3, 1, false);
        c.due("alone, far behind", x.all(5), 0);
        c.due("THERE", x.fate(0, 2), 39);

        c.sentence("15 all", "and THE TAIL is not behind it or there (or there is none)");
        x = Check.led(4, 0, 0, 10, 3);
        x.mark(3, 0, 1);
        x.person(0, 1, false);
        c.due("there is none", x.all(5), 1);
        x.person(3, 4, false);
        c.due("THE TAIL is there", x.all(5), 0);
        x = Check.led(4, 0, 0, 10, 3);
        x.mark(3, 2, 1);
        x.person(3, 2, false);
        x.person(0, 2, false);
        c.places("THE TAIL comes to the TURN at 2 ahead of the other", x, 0, 0, 2, 4);
        c.due("THE TAIL is there", x.all(5), 0);
        x = Check.led(4, 0, 0, 10, 3);
        x.mark(3, 2, 1);
        x.person(3, 1, false);
        x.person(0, 2, false);
        c.places("THE TAIL is behind", x, 0, 0, 1, 2);
        c.due("THE TAIL is behind the TURN", x.all(5), 0);

        c.sentence("14 at", "THE TAIL not off the least PLACE of all others that are not LOST");
        x = Check.led(4, 0, 0, 10, 3);
        x.person(3, 4, false);
        c.places("no others", x, 0, 4, 8, 12);
        x.person(0, 3, false);
        x.person(0, 1, false);
        c.places("by numbers: they have not gone yet", x, 0, 0, 1, 2);
        x = Check.led(4, 0, 0, 10, 3);
        x.person(0, 1, false);
        x.person(0, 3, false);
        x.person(3, 4, false);
        c.places("by numbers: they have gone", x, 2, 1, 2, 3);
        x = Check.led(4, 0, 0, 10, 3);
        x.person(3, 2, false);
        x.person(0, 4, false);
        c.places("not farther than its PACE", x, 0, 0, 2, 4);
        x = Check.led(4, 0, 0, 10, 3);
        Check.group(x, "p4,p4,p4,p4,p4,p4,p4,p4,p1,t4");
        c.places("the tenth, behind the ninth", x, 9, 1, 2, 3);
        Check.group(x, "p4,t4");
        c.places("the ninth is none of them any more", x, 1, 4, 8);
    }

    // ---- 3 behind all

    private static void behindAll(Check c) {
        c.sentence("13 fate", "RESTED is each that is not LOST and at the guide's PLACE, if that is not the END");
        FlagWalk x = Check.led(1, 0, 0, 10, 3);
        x.end(10);
        x.person(0, 1, false);
        c.due("behind 0 .. 8, not at the END", x.fate(0, 1), 9);
        x.person(2, 1, false);
        c.due("behind 0 alone", x.fate(1, 1), 1);

        c.sentence("14 at", "OUT: how far she is ahead of the last that is not LOST");
        x = withALostOne(2, 0, 30, 20);
        // The first is at 2 behind 2, and LOST in 4.
        c.places("with the far one, then without", x, -2, 0, 1, 1, 2, 0, 0);
        x = Check.led(4, 0, 0, 10, 3);
        Check.group(x, "p4,p1,p4,p2");
        c.places("the last", x, -2, 3, 6, 9);
        c.due("all at the END", x.at(299, -2), 0);

        c.sentence("13 fate", "THERE is one from when it is at the END");
        x = Check.led(4, 0, 0, 10, 3);
        x.end(10);
        Check.group(x, "p4,p1,o4");
        int[] there = {2, 9, 4};
        for (int i = 0; i < 3; i++) {
            c.due("THERE " + i, x.fate(i, 2), there[i]);
        }
    }

    // ---- the calls

    private static void fate(Check c) {
        c.sentence("13 fate", "Of one of PEOPLE: 0 HEARD, 1 RESTED, 2 THERE, 3 LOST at which TURN's PLACE (NONE)."
                + " BAD.");
        FlagWalk x = new FlagWalk();
        for (int bad : new int[] {LOW, -1, 0, HIGH}) {
            c.due("nobody: fate(" + bad + ", 0)", x.fate(bad, 0), BAD);
        }
        for (int i = 0; i < 10; i++) {
            x.person(0, 2, false);
            c.due("the last", x.fate(i, 2), 19);
            c.due("one more", x.fate(i + 1, 2), BAD);
        }
        for (int bad : new int[] {LOW, -2, -1, 10, HIGH}) {
            c.due("fate(" + bad + ", 0)", x.fate(bad, 0), BAD);
        }
        for (int bad : new int[] {LOW, -1, 4, HIGH}) {
            c.due("fate(0, " + bad + ")", x.fate(0, bad), BAD);
        }
        int[] due = {0, 19, 19, NONE};
        for (int what = 0; what < 4; what++) {
            c.due("fate(9, " + what + ")", x.fate(9, what), due[what]);
        }

        c.sentence("13 fate", "3 LOST at which TURN's PLACE (NONE)");
        x = Check.led(4, 0, 0, 10, 3);
        x.mark(3, 0, 3);
        Check.group(x, "p1,p4");
        c.due("LOST at 0", x.fate(0, 3), 0);
        c.due("LOST at 0 too", x.fate(1, 3), 0);
        x = Check.led(4, 0, 0, 10, 3);
        x.end(99);
        x.mark(3, 98, 1);
        x.mark(1, 98, 2);
        Check.group(x, "o4");
        c.due("kept at 98: not LOST", x.fate(0, 3), NONE);
    }

    private static void at(Check c) {
        c.sentence("14 at", "Behind a MINUTE (0 .. 299)");
        FlagWalk x = new FlagWalk();
        x.person(0, 1, false);
        c.due("the first", x.at(0, -1), 2);
        c.due("the last", x.at(299, -1), 40);
        c.due("of one, the first", x.at(0, 0), 1);
        c.due("of one, the last", x.at(299, 0), 40);
        for (int bad : new int[] {LOW, -1, 300, HIGH}) {
            for (int who = -2; who <= 0; who++) {
                c.due("at(" + bad + ", " + who + ")", x.at(bad, who), BAD);
            }
        }

        c.sentence("14 at", "the PLACE of one; of the guide (-1); OUT (-2;");
        for (int bad : new int[] {LOW, -3, 1, 10, HIGH}) {
            c.due("at(0, " + bad + ")", x.at(0, bad), BAD);
        }
        c.due("OUT", x.at(0, -2), 1);
        c.due("of nobody", new FlagWalk().at(0, 0), BAD);
        for (int i = 1; i < 10; i++) {
            x.person(0, 2, false);
        }
        c.due("of the tenth", x.at(0, 9), 2);
        c.due("no more", x.at(0, 10), BAD);

        c.sentence("14 at", "NONE: all are LOST, there is nobody");
        c.due("nobody, the first MINUTE", new FlagWalk().at(0, -2), NONE);
        c.due("nobody, the last", new FlagWalk().at(299, -2), NONE);
        x = Check.led(4, 0, 0, 10, 3);
        x.mark(3, 1, 1);
        Check.group(x, "p1,o1");
        c.places("one LOST in 1, one in 2", x, -2, 3, 7, NONE, NONE);
        c.due("to the last MINUTE", x.at(299, -2), NONE);
    }

    private static void all(Check c) {
        c.sentence("15 all", "In all: 0 HEARD together, 1 the LEAST OFF (NONE: nobody)");
        FlagWalk x = new FlagWalk();
        for (int bad : new int[] {LOW, -1, 6, HIGH}) {
            c.due("all(" + bad + ")", x.all(bad), BAD);
        }
        c.due("nobody: HEARD together", x.all(0), 0);
        c.due("nobody: LEAST OFF", x.all(1), NONE);
        x.person(0, 1, false);
        c.due("one, nothing HEARD", x.all(1), 0);

        allHeard(c);
        allThere(c);
        allOut(c);
        allLost(c);
    }

    private static void allHeard(Check c) {
        c.sentence("15 all", "LEAST OFF: of all PEOPLE the least HEARD.");
        FlagWalk x = Check.led(4, 0, 0, 0, 1);
        x.mark(0, 4, 4);
        Check.group(x, "p4,p1,p4");
        // The second is 1 off ahead of 3: it hears 3 and 4.
        c.due("the one in the middle", x.all(1), 2);
        c.due("together", x.all(0), 10);
        x = withALostOne(0, 0, 0, 20);
        c.due("a LOST one is of all PEOPLE", x.all(1), 0);
        c.due("together", x.all(0), 1);
        x = Check.led(4, 0, 0, 0, 20);
        x.end(99);
        Check.way(x, "s0:20;s1:20;s2:20;s3:20;s4:20;s5:20;s6:20;s7:20");
        Check.group(x, "p4,p4,p4,p4,p4,p4,p4,p4,p4,p4");
        c.due("the most: LEAST OFF", x.all(1), 160);
        c.due("the most: together", x.all(0), 1600);
    }

    private static void allThere(Check c) {
        c.sentence("15 all", "3 when all are THERE (NONE)");
        FlagWalk x = Check.led(4, 0, 0, 10, 3);
        x.end(10);
        c.due("nobody", x.all(3), NONE);
        Check.group(x, "p1,p4");
        c.due("the last", x.all(3), 9);
        x.mark(3, 3, 1);
        c.due("one LOST", x.all(5), 1);
        c.due("so not all", x.all(3), NONE);
        FlagWalk late = lateOne();
        c.due("in MINUTE 299", late.all(3), 299);
        late.mark(1, 95, 2);
        c.due("one MINUTE more: not by 299", late.all(3), NONE);
        c.due("at 98 by 299", late.at(299, 0), 98);
    }

    /** A LOOKING one of PACE 1 who looks 160 MINUTES, and leaves the LIGHT at 89, red in 280 .. 289, in 290. */
    static FlagWalk lateOne() {
        FlagWalk x = Check.led(1, 0, 0, 10, 3);
        x.end(99);
        for (int i = 1; i <= 8; i++) {
            x.mark(2, 10 * i, 20);
        }
        for (int light : new int[] {2, 14, 24, 59, 89}) {
            x.mark(1, light, 20);
        }
        x.person(1, 1, false);
        return x;
    }

    private static void allOut(Check c) {
        c.sentence("15 all", "4 the most OUT (NONE: in no MINUTE)");
        c.due("nobody", new FlagWalk().all(4), NONE);
        FlagWalk x = Check.led(4, 0, 0, 10, 3);
        x.mark(3, 0, 1);
        x.person(0, 1, false);
        c.due("all LOST in 0", x.all(4), NONE);
        x = Check.led(4, 0, 0, 10, 3);
        x.mark(3, 1, 1);
        x.person(0, 1, false);
        c.due("all LOST in 1", x.all(4), 3);
        x = Check.led(1, 0, 0, 10, 3);
        x.person(0, 1, false);
        c.due("never OUT", x.all(4), 0);
        x = Check.led(4, 0, 0, 10, 3);
        x.end(99);
        x.mark(1, 0, 2);
        x.person(2, 1, false);
        c.due("the END from PLACE 0", x.all(4), 99);
        Check.way(x, "s1:1");
        Check.group(x, "p4");
        c.due("of another way and another GROUP", x.all(4), 0);
    }

    private static void allLost(Check c) {
        c.sentence("15 all", "5 LOST (a set)");
        FlagWalk x = Check.led(4, 0, 0, 10, 3);
        x.mark(3, 3, 1);
        Check.group(x, "p1,p4,p1,p4,p4,p4,p4,p4,p4,p2");
        // Who goes 4 a MINUTE passes 3 as she is at 4; the others come there as she is gone.
        c.due("1 + 4 + 512", x.all(5), 517);
        c.due("nobody", new FlagWalk().all(5), 0);
        x = Check.led(4, 0, 0, 10, 3);
        x.mark(3, 0, 1);
        Check.group(x, "p1,p4,p1,p4,p4,p4,p4,p4,p4,p2");
        c.due("all ten", x.all(5), 1023);
    }
}
