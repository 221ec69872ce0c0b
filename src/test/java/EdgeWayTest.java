/**
 * Promises 1 to 8 and 12: each sentence that names an edge (too small, too large, empty, full, a refused call) has a
 * test of its own, which begins with the document's words.
 */
public final class EdgeWayTest {
    private static final int LOW = Check.LOW, HIGH = Check.HIGH;
    private static final int BAD = Check.BAD, NOT = Check.NOT, FULL = Check.FULL, NONE = Check.NONE, NULL = Check.NULL;
    private static final int[] SHORTEST = {1, 2, 1, 1};
    private static final int[] LONGEST = {20, 20, 20, 50};

    public static void main(String[] args) {
        Check c = new Check("EdgeWayTest");
        newObject(c);
        end(c);
        markBounds(c);
        markRefusals(c);
        told(c);
        value(c);
        person(c);
        of(c);
        rule(c);
        count(c);
        c.finish();
    }

    private static void newObject(Check c) {
        newWayAndPeople(c);
        newEnd(c);
        newRules(c);
        newSheets(c);
        newAlone(c);
    }

    private static void newWayAndPeople(Check c) {
        c.sentence("1 A new object", "A way without marks, nobody.");
        FlagWalk x = new FlagWalk();
        for (int what = 0; what <= 5; what++) {
            c.due("count(" + what + ")", x.count(what), 0);
        }
        for (int kind = 0; kind < 4; kind++) {
            c.due("told(" + kind + ", 0, 0)", x.told(kind, 0, 0), BAD);
        }
        c.due("value(0, 0)", x.value(0, 0), BAD);
        c.due("of(0, 0)", x.of(0, 0), BAD);
        c.due("fate(0, 0)", x.fate(0, 0), BAD);
        c.due("all(1)", x.all(1), NONE);
    }

    private static void newEnd(Check c) {
        c.sentence("1 A new object", "40 at first");
        c.due("at(19, -1)", new FlagWalk().at(19, -1), 40);
        c.due("at(18, -1)", new FlagWalk().at(18, -1), 38);
        c.due("end(10)", new FlagWalk().end(10), 40);
    }

    private static void newRules(Check c) {
        c.sentence("1 A new object", "0 PACE (1 .. 4; 2 at first), 1 BEGIN (0 .. 10; 5), 2 STAND (0 .. 9; 0),"
                + " 3 PATIENCE (0 .. 30; 10), 4 REACH (1 .. 20; 3).");
        int[] first = {2, 5, 0, 10, 3};
        FlagWalk x = new FlagWalk();
        for (int r = 0; r < 5; r++) {
            c.due("rule(" + r + ", 1)", x.rule(r, 1), first[r]);
        }
    }

    private static void newSheets(Check c) {
        c.sentence("1 A new object", "nothing (at first)");
        FlagWalk x = new FlagWalk();
        for (int sheet = 0; sheet < 4; sheet++) {
            c.due("drop(" + sheet + ")", x.drop(sheet), NULL);
        }
    }

    private static void newAlone(Check c) {
        c.sentence("1 A new object", "A way without marks, nobody.");
        FlagWalk x = new FlagWalk();
        x.mark(0, 5, 5);
        x.person(0, 1, true);
        x.end(99);
        x.rule(0, 4);
        x.square(0, 1);
        x.image();
        x.sheet(0, 0, 5);
        Check.type(x, "s5:");
        FlagWalk y = new FlagWalk();
        c.due("no MARK of another object", y.count(0), 0);
        c.due("nobody of another object", y.count(4), 0);
        c.due("no END of another object", y.end(40), 40);
        c.due("no RULE of another object", y.rule(0, 2), 2);
        c.due("no SQUARE of another object", y.square(0, 0), 0);
        c.due("no IMAGE of another object", y.restore(), NONE);
        c.due("no SHEET of another object", y.drop(0), NULL);
        c.due("no TAPE of another object", y.type('s', 1), 1);
    }

    private static void end(Check c) {
        endBounds(c);
        endWhatItWas(c);
        endChangesNothing(c);
    }

    private static void endBounds(Check c) {
        c.sentence("2 end", "THE WAY goes from PLACE 0 to its END (10 .. 99; 40 at first).");
        FlagWalk x = new FlagWalk();
        c.due("end(9)", x.end(9), BAD);
        c.due("end(10)", x.end(10), 40);
        c.due("she is at 10 behind 4", x.all(2), 4);
        c.due("end(100)", x.end(100), BAD);
        c.due("end(99)", x.end(99), 10);
        c.due("she is at 99 behind 49", x.all(2), 49);
        for (int bad : new int[] {LOW, -1, 0, HIGH}) {
            c.due("end(" + bad + ")", x.end(bad), BAD);
        }
    }

    private static void endWhatItWas(Check c) {
        c.sentence("2 end", "The END: what it was.");
        FlagWalk x = new FlagWalk();
        c.due("the same", x.end(40), 40);
        c.due("the least", x.end(10), 40);
        c.due("the most", x.end(99), 10);
        c.due("between", x.end(41), 99);
        c.due("back", x.end(40), 41);
    }

    private static void endChangesNothing(Check c) {
        c.sentence("2 end", "What answers so changes nothing, but as told.");
        FlagWalk x = new FlagWalk();
        x.end(9);
        c.due("behind end(9) she is there", x.all(2), 19);
        c.due("END", x.end(40), 40);
        x.end(100);
        c.due("behind end(100) she is there", x.all(2), 19);
        c.due("END", x.end(40), 40);
    }

    private static void markBounds(Check c) {
        markKinds(c);
        markPlaces(c);
        String[] words = {"0 STOPS, where she speaks (a LENGTH, 1 .. 20 MINUTES)", "1 LIGHTS (a LENGTH, 2 .. 20:",
            "2 WINDOWS (a LENGTH, 1 .. 20)", "3 TURNS (a LENGTH, 1 .. 50)"};
        for (int kind = 0; kind < 4; kind++) {
            markLengths(c, words[kind], kind);
        }
        markNumbers(c);
    }

    private static void markKinds(Check c) {
        c.sentence("3 mark", "Of each of four kinds of MARKS there are 0 .. 8");
        FlagWalk x = new FlagWalk();
        for (int bad : new int[] {LOW, -1, 4, HIGH}) {
            c.due("mark(" + bad + ", 5, 5)", x.mark(bad, 5, 5), BAD);
        }
        c.due("the first kind", x.mark(0, 5, 5), 0);
        c.due("the last kind", x.mark(3, 5, 5), 0);
    }

    private static void markPlaces(Check c) {
        c.sentence("3 mark", "each at a PLACE (0 .. 99;");
        for (int kind = 0; kind < 4; kind++) {
            FlagWalk x = new FlagWalk();
            for (int bad : new int[] {LOW, -1, 100, HIGH}) {
                c.due("mark(" + kind + ", " + bad + ", 5)", x.mark(kind, bad, 5), BAD);
            }
            c.due("PLACE 0", x.mark(kind, 0, 5), 0);
            c.due("PLACE 99", x.mark(kind, 99, 5), 1);
            c.due("told PLACE 0", x.told(kind, 0, 0), 0);
            c.due("told PLACE 99", x.told(kind, 1, 0), 99);
        }
    }

    private static void markLengths(Check c, String words, int kind) {
        c.sentence("3 mark", words);
        FlagWalk x = new FlagWalk();
        for (int bad : new int[] {LOW, -1, SHORTEST[kind] - 1, LONGEST[kind] + 1, HIGH}) {
            c.due("mark(" + kind + ", 5, " + bad + ")", x.mark(kind, 5, bad), BAD);
        }
        c.due("the shortest", x.mark(kind, 5, SHORTEST[kind]), 0);
        c.due("the longest", x.mark(kind, 6, LONGEST[kind]), 1);
        c.due("told the shortest", x.told(kind, 0, 1), SHORTEST[kind]);
        c.due("told the longest", x.told(kind, 1, 1), LONGEST[kind]);
    }

    private static void markNumbers(Check c) {
        c.sentence("3 mark", "its number in its kind (as they come)");
        FlagWalk x = new FlagWalk();
        c.due("a far STOP", x.mark(0, 30, 5), 0);
        c.due("a LIGHT", x.mark(1, 30, 5), 0);
        c.due("a near STOP", x.mark(0, 2, 5), 1);
        c.due("the far one is 0", x.told(0, 0, 0), 30);
        c.due("the near one is 1", x.told(0, 1, 0), 2);
    }

    private static void markRefusals(Check c) {
        markNot(c);
        markNotOfTheKindAlone(c);
        markFull(c);
        markAllFull(c);
        markOrder(c);
        markChangesNothing(c);
    }

    private static void markNot(Check c) {
        c.sentence("3 mark", "NOT: one of the kind is there");
        for (int kind = 0; kind < 4; kind++) {
            for (int place : new int[] {0, 39, 40, 99}) {
                FlagWalk x = new FlagWalk();
                x.mark(kind, place, 5);
                c.due("mark(" + kind + ", " + place + ", 5) again", x.mark(kind, place, 5), NOT);
                c.due("of another LENGTH", x.mark(kind, place, 6), NOT);
                c.due("beside it", x.mark(kind, place == 0 ? 1 : place - 1, 5), 1);
            }
        }
        FlagWalk y = new FlagWalk();
        Check.way(y, "s9:1;s7:1");
        c.due("one of a WAY is there", y.mark(0, 7, 5), NOT);
    }

    private static void markNotOfTheKindAlone(Check c) {
        c.sentence("3 mark", "No two of a kind are at one PLACE.");
        FlagWalk x = new FlagWalk();
        for (int kind = 0; kind < 4; kind++) {
            c.due("kind " + kind + " at 7", x.mark(kind, 7, 5), 0);
        }
    }

    private static FlagWalk withEight(int kind) {
        FlagWalk x = new FlagWalk();
        for (int i = 0; i < 8; i++) {
            x.mark(kind, 2 * i, 5);
        }
        return x;
    }

    private static void markFull(Check c) {
        c.sentence("3 mark", "FULL: 8");
        for (int kind = 0; kind < 4; kind++) {
            FlagWalk x = new FlagWalk();
            for (int i = 0; i < 8; i++) {
                c.due("the one with number " + i, x.mark(kind, 2 * i, 5), i);
            }
            c.due("one more", x.mark(kind, 50, 5), FULL);
            c.due("of another kind", x.mark((kind + 1) % 4, 50, 5), 0);
        }
        FlagWalk y = new FlagWalk();
        Check.way(y, "s1:1;s2:1;s3:1;s4:1;s5:1;s6:1;s7:1");
        c.due("behind seven of a WAY", y.mark(0, 8, 1), 7);
        c.due("behind eight", y.mark(0, 9, 1), FULL);
    }

    private static void markAllFull(Check c) {
        c.sentence("3 mark", "Of each of four kinds of MARKS there are 0 .. 8");
        FlagWalk x = new FlagWalk();
        for (int i = 0; i < 32; i++) {
            c.due("MARK " + i, x.mark(i % 4, i, 5), i / 4);
        }
        for (int kind = 0; kind < 4; kind++) {
            c.due("how many of " + kind, x.count(kind), 8);
            c.due("one more of " + kind, x.mark(kind, 50, 5), FULL);
            for (int i = 0; i < 8; i++) {
                c.due("told " + kind + " " + i, x.told(kind, i, 0), 4 * i + kind);
            }
        }
    }

    private static void markOrder(Check c) {
        c.sentence("3 mark", "of several BAD ahead of all others, then the first that a call names");
        for (int kind = 0; kind < 4; kind++) {
            FlagWalk x = withEight(kind);
            c.due("FULL, one is there: NOT", x.mark(kind, 2, 5), NOT);
            c.due("FULL, too short: BAD", x.mark(kind, 50, SHORTEST[kind] - 1), BAD);
            c.due("FULL, too long: BAD", x.mark(kind, 50, LONGEST[kind] + 1), BAD);
            c.due("one is there, too short: BAD", x.mark(kind, 2, SHORTEST[kind] - 1), BAD);
            c.due("FULL, no PLACE: BAD", x.mark(kind, 100, 5), BAD);
        }
    }

    private static void markChangesNothing(Check c) {
        c.sentence("3 mark", "What answers so changes nothing, but as told.");
        FlagWalk x = withEight(0);
        x.value(0, 33);
        x.mark(0, 2, 9);
        x.mark(0, 50, 9);
        x.mark(0, 50, 21);
        x.mark(1, 50, 21);
        c.due("how many STOPS", x.count(0), 8);
        c.due("how many LIGHTS", x.count(1), 0);
        for (int i = 0; i < 8; i++) {
            c.due("PLACE " + i, x.told(0, i, 0), 2 * i);
            c.due("LENGTH " + i, x.told(0, i, 1), 5);
            c.due("VALUE " + i, x.told(0, i, 2), i == 0 ? 33 : 10);
        }
    }

    private static void told(Check c) {
        toldWhat(c);
        toldValueOfStops(c);
        toldNumbers(c);
        toldFarOnes(c);
    }

    private static void toldWhat(Check c) {
        c.sentence("4 told", "Of a MARK: PLACE (0), LENGTH (1), VALUE (2; of STOPS). BAD.");
        FlagWalk x = new FlagWalk();
        x.mark(0, 7, 4);
        int[] due = {7, 4, 10};
        for (int what = 0; what < 3; what++) {
            c.due("told(0, 0, " + what + ")", x.told(0, 0, what), due[what]);
        }
        for (int bad : new int[] {LOW, -1, 3, HIGH}) {
            c.due("told(0, 0, " + bad + ")", x.told(0, 0, bad), BAD);
        }
    }

    private static void toldValueOfStops(Check c) {
        c.sentence("4 told", "VALUE (2; of STOPS)");
        FlagWalk x = new FlagWalk();
        for (int kind = 0; kind < 4; kind++) {
            x.mark(kind, 7, 4);
            c.due("told(" + kind + ", 0, 2)", x.told(kind, 0, 2), kind == 0 ? 10 : BAD);
        }
    }

    private static void toldNumbers(Check c) {
        c.sentence("4 told", "there is no such thing");
        FlagWalk x = new FlagWalk();
        x.mark(0, 7, 4);
        x.mark(0, 8, 4);
        x.mark(2, 9, 4);
        c.due("the last STOP", x.told(0, 1, 0), 8);
        c.due("the last WINDOW", x.told(2, 0, 0), 9);
        for (int bad : new int[] {LOW, -1, 2, 7, 8, HIGH}) {
            c.due("told(0, " + bad + ", 0)", x.told(0, bad, 0), BAD);
        }
        c.due("no second WINDOW", x.told(2, 1, 0), BAD);
        c.due("no LIGHT", x.told(1, 0, 0), BAD);
        c.due("no TURN", x.told(3, 0, 0), BAD);
        for (int bad : new int[] {LOW, -1, 4, HIGH}) {
            c.due("told(" + bad + ", 0, 0)", x.told(bad, 0, 0), BAD);
        }
    }

    private static void toldFarOnes(Check c) {
        c.sentence("4 told", "those at the END or beyond, and WINDOWS at PLACE 0, are not met");
        FlagWalk x = new FlagWalk();
        x.mark(0, 40, 4);
        x.mark(0, 99, 5);
        x.mark(2, 0, 6);
        c.due("at the END", x.told(0, 0, 0), 40);
        c.due("beyond", x.told(0, 1, 1), 5);
        c.due("a WINDOW at 0", x.told(2, 0, 1), 6);
    }

    private static void value(Check c) {
        valueBounds(c);
        valueStops(c);
        valueFirst(c);
        valueChangesNothing(c);
    }

    private static void valueBounds(Check c) {
        c.sentence("5 value", "each has a VALUE (0 .. 99; 10 at first)");
        FlagWalk x = new FlagWalk();
        x.mark(0, 5, 5);
        for (int bad : new int[] {LOW, -1, 100, HIGH}) {
            c.due("value(0, " + bad + ")", x.value(0, bad), BAD);
        }
        c.due("value(0, 0)", x.value(0, 0), 10);
        c.due("value(0, 99)", x.value(0, 99), 0);
        c.due("value(0, 99) again", x.value(0, 99), 99);
    }

    private static void valueStops(Check c) {
        c.sentence("5 value", "VALUE of a STOP: what it was. BAD.");
        FlagWalk x = new FlagWalk();
        c.due("no STOP", x.value(0, 5), BAD);
        x.mark(1, 5, 5);
        c.due("a LIGHT is none", x.value(0, 5), BAD);
        x.mark(0, 99, 5);
        x.mark(0, 5, 5);
        c.due("the first, not met", x.value(0, 20), 10);
        c.due("the last", x.value(1, 30), 10);
        for (int bad : new int[] {LOW, -1, 2, 8, HIGH}) {
            c.due("value(" + bad + ", 5)", x.value(bad, 5), BAD);
        }
        c.due("the first", x.told(0, 0, 2), 20);
        c.due("the last", x.told(0, 1, 2), 30);
    }

    private static void valueFirst(Check c) {
        c.sentence("5 value", "10 at first");
        FlagWalk x = new FlagWalk();
        for (int i = 0; i < 8; i++) {
            x.mark(0, i, 1);
            c.due("VALUE of STOP " + i, x.told(0, i, 2), 10);
            x.value(i, 50 + i);
        }
        Check.way(x, "s1:1");
        c.due("the STOP of a WAY", x.told(0, 0, 2), 10);
        for (int i = 1; i < 8; i++) {
            x.mark(0, 20 + i, 1);
            c.due("STOP " + i + " behind a WAY", x.told(0, i, 2), 10);
        }
    }

    private static void valueChangesNothing(Check c) {
        c.sentence("5 value", "What answers so changes nothing, but as told.");
        FlagWalk x = new FlagWalk();
        x.mark(0, 5, 5);
        x.value(0, 7);
        x.value(0, 100);
        x.value(0, -1);
        x.value(1, 5);
        c.due("VALUE", x.told(0, 0, 2), 7);
    }

    private static void person(Check c) {
        personKinds(c);
        personNumbers(c);
        personPaces(c);
        personTail(c);
        personFull(c);
        personOrder(c);
        personChangesNothing(c);
    }

    private static void personKinds(Check c) {
        c.sentence("6 person", "KINDS: 0 PLAIN; below it 1 LOOKING (stays at each WINDOW), 2 OLD (goes on even MINUTES"
                + " alone), 3 THE TAIL (never LOST; one at the most).");
        FlagWalk x = new FlagWalk();
        for (int bad : new int[] {LOW, -1, 4, HIGH}) {
            c.due("person(" + bad + ", 1, false)", x.person(bad, 1, false), BAD);
        }
        for (int kind = 0; kind < 4; kind++) {
            c.due("person(" + kind + ", 1, false)", x.person(kind, 1, false), kind);
            c.due("KIND", x.of(kind, 0), kind);
        }
    }

    private static void personNumbers(Check c) {
        c.sentence("6 person", "PEOPLE 0 .. 9, as they come");
        FlagWalk x = new FlagWalk();
        for (int i = 0; i < 10; i++) {
            c.due("the number", x.person(i == 4 ? 3 : i % 3, 1 + i % 4, i % 2 == 0), i);
        }
        for (int i = 0; i < 10; i++) {
            c.due("KIND " + i, x.of(i, 0), i == 4 ? 3 : i % 3);
            c.due("PACE " + i, x.of(i, 1), 1 + i % 4);
            c.due("EAR " + i, x.of(i, 2), 1 - i % 2);
        }
    }

    private static void personPaces(Check c) {
        c.sentence("6 person", "have a PACE (1 .. 4)");
        FlagWalk x = new FlagWalk();
        for (int bad : new int[] {LOW, -1, 0, 5, HIGH}) {
            c.due("person(0, " + bad + ", true)", x.person(0, bad, true), BAD);
        }
        c.due("the least", x.person(0, 1, true), 0);
        c.due("the most", x.person(0, 4, true), 1);
        c.due("told the least", x.of(0, 1), 1);
        c.due("told the most", x.of(1, 1), 4);
    }

    private static void personTail(Check c) {
        c.sentence("6 person", "NOT: a second TAIL");
        FlagWalk x = new FlagWalk();
        c.due("the first", x.person(3, 1, false), 0);
        c.due("a second", x.person(3, 1, false), NOT);
        c.due("a second, unlike", x.person(3, 4, true), NOT);
        c.due("a PLAIN one", x.person(0, 1, false), 1);
        Check.group(x, "p1,t1");
        c.due("behind a GROUP with one", x.person(3, 1, false), NOT);
        Check.group(x, "p1,p1");
        c.due("behind a GROUP without", x.person(3, 1, false), 2);
        FlagWalk y = new FlagWalk();
        for (int i = 0; i < 9; i++) {
            y.person(0, 1, false);
        }
        c.due("THE TAIL as the tenth", y.person(3, 1, false), 9);
    }

    private static void personFull(Check c) {
        c.sentence("6 person", "FULL: 10");
        for (int kind = 0; kind < 3; kind++) {
            FlagWalk x = new FlagWalk();
            for (int i = 0; i < 10; i++) {
                c.due("the number " + i, x.person(kind, 1, false), i);
            }
            c.due("one more", x.person(kind, 1, false), FULL);
            c.due("THE TAIL", x.person(3, 1, false), FULL);
            c.due("how many", x.count(4), 10);
        }
        FlagWalk y = new FlagWalk();
        Check.group(y, "p1,p1,p1,p1,p1,p1,p1,p1,p1");
        c.due("behind nine of a GROUP", y.person(0, 1, false), 9);
        c.due("behind ten", y.person(0, 1, false), FULL);
    }

    private static void personOrder(Check c) {
        c.sentence("6 person", "of several BAD ahead of all others, then the first that a call names");
        FlagWalk x = new FlagWalk();
        x.person(3, 1, false);
        c.due("a second TAIL, no PACE: BAD", x.person(3, 5, false), BAD);
        for (int i = 1; i < 10; i++) {
            x.person(0, 1, false);
        }
        c.due("FULL, a second TAIL: NOT", x.person(3, 1, false), NOT);
        c.due("FULL, no PACE: BAD", x.person(0, 0, false), BAD);
        c.due("FULL, no KIND: BAD", x.person(4, 1, false), BAD);
        c.due("FULL, a second TAIL, no PACE: BAD", x.person(3, 0, false), BAD);
    }

    private static void personChangesNothing(Check c) {
        c.sentence("6 person", "What answers so changes nothing, but as told.");
        FlagWalk x = new FlagWalk();
        x.person(3, 2, true);
        x.person(3, 3, false);
        x.person(0, 5, false);
        x.person(4, 1, false);
        c.due("how many", x.count(4), 1);
        c.due("KIND", x.of(0, 0), 3);
        c.due("PACE", x.of(0, 1), 2);
        c.due("EAR", x.of(0, 2), 1);
        c.due("no other", x.of(1, 0), BAD);
    }

    private static void of(Check c) {
        c.sentence("7 of", "KIND (0), PACE (1), whether it has an EAR box (2; 1, 0)");
        FlagWalk x = new FlagWalk();
        x.person(2, 4, true);
        x.person(0, 1, false);
        int[] due = {2, 4, 1, 0, 1, 0};
        for (int i = 0; i < 6; i++) {
            c.due("of(" + i / 3 + ", " + i % 3 + ")", x.of(i / 3, i % 3), due[i]);
        }
        for (int bad : new int[] {LOW, -1, 3, HIGH}) {
            c.due("of(0, " + bad + ")", x.of(0, bad), BAD);
        }
        c.sentence("7 of", "there is no such thing");
        for (int bad : new int[] {LOW, -1, 2, 9, 10, HIGH}) {
            c.due("of(" + bad + ", 0)", x.of(bad, 0), BAD);
        }
        c.due("of nobody", new FlagWalk().of(0, 0), BAD);
        for (int i = 2; i < 10; i++) {
            x.person(1, 3, false);
        }
        c.due("the tenth", x.of(9, 0), 1);
        c.due("no more", x.of(10, 0), BAD);
    }

    private static void rule(Check c) {
        String[] words = {"0 PACE (1 .. 4; 2 at first)", "1 BEGIN (0 .. 10; 5)", "2 STAND (0 .. 9; 0)",
            "3 PATIENCE (0 .. 30; 10)", "4 REACH (1 .. 20; 3)"};
        int[] least = {1, 0, 0, 0, 1};
        int[] most = {4, 10, 9, 30, 20};
        int[] first = {2, 5, 0, 10, 3};
        for (int r = 0; r < 5; r++) {
            c.sentence("8 rule", words[r]);
            FlagWalk x = new FlagWalk();
            for (int bad : new int[] {LOW, least[r] - 1, most[r] + 1, HIGH}) {
                c.due("rule(" + r + ", " + bad + ")", x.rule(r, bad), BAD);
            }
            c.due("the least", x.rule(r, least[r]), first[r]);
            c.due("the most", x.rule(r, most[r]), least[r]);
            c.due("what it was", x.rule(r, first[r]), most[r]);
        }
        ruleNumbers(c);
        ruleChangesNothing(c);
    }

    private static void ruleNumbers(Check c) {
        c.sentence("8 rule", "A RULE: what it was. BAD.");
        FlagWalk x = new FlagWalk();
        for (int bad : new int[] {LOW, -1, 5, HIGH}) {
            c.due("rule(" + bad + ", 1)", x.rule(bad, 1), BAD);
        }
        c.due("the last", x.rule(4, 20), 3);
        c.due("the last again", x.rule(4, 20), 20);
        c.due("the one ahead of it", x.rule(3, 10), 10);
    }

    private static void ruleChangesNothing(Check c) {
        c.sentence("8 rule", "What answers so changes nothing, but as told.");
        FlagWalk x = new FlagWalk();
        int[] first = {2, 5, 0, 10, 3};
        for (int r = 0; r < 5; r++) {
            x.rule(r, 31);
            x.rule(r, -1);
        }
        for (int r = 0; r < 5; r++) {
            c.due("rule(" + r + ")", x.rule(r, first[r]), first[r]);
        }
    }

    private static void count(Check c) {
        countWhat(c);
        countMet(c);
        countMetByANewEnd(c);
    }

    private static void countWhat(Check c) {
        c.sentence("12 count", "How many: 0 .. 3 MARKS by kinds, 4 PEOPLE, 5 STOPS that are met. BAD.");
        FlagWalk x = new FlagWalk();
        for (int i = 0; i < 8; i++) {
            x.mark(0, i, 5);
            x.person(0, 1, false);
        }
        for (int i = 0; i < 7; i++) {
            x.mark(1, i, 5);
            x.mark(2, i % 6, 5);
            x.mark(3, i % 5, 5);
        }
        int[] due = {8, 7, 6, 5, 8, 8};
        for (int what = 0; what < 6; what++) {
            c.due("count(" + what + ")", x.count(what), due[what]);
        }
        for (int bad : new int[] {LOW, -1, 6, HIGH}) {
            c.due("count(" + bad + ")", x.count(bad), BAD);
        }
    }

    private static void countMet(Check c) {
        c.sentence("12 count", "those at the END or beyond, and WINDOWS at PLACE 0, are not met");
        FlagWalk x = new FlagWalk();
        x.mark(0, 40, 1);
        c.due("one at the END", x.count(5), 0);
        x.mark(0, 41, 1);
        x.mark(0, 99, 1);
        c.due("two beyond", x.count(5), 0);
        x.mark(0, 39, 1);
        c.due("one a PLACE ahead", x.count(5), 1);
        x.mark(0, 0, 1);
        c.due("one at 0", x.count(5), 2);
        c.due("all are MARKS", x.count(0), 5);
    }

    private static void countMetByANewEnd(Check c) {
        c.sentence("12 count", "5 STOPS that are met");
        FlagWalk x = new FlagWalk();
        x.mark(0, 10, 1);
        x.mark(0, 98, 1);
        x.mark(0, 99, 1);
        c.due("END 40", x.count(5), 1);
        x.end(10);
        c.due("END 10", x.count(5), 0);
        x.end(11);
        c.due("END 11", x.count(5), 1);
        x.end(98);
        c.due("END 98", x.count(5), 1);
        x.end(99);
        c.due("END 99", x.count(5), 2);
    }
}
