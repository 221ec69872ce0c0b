/** Promises 9 to 11: each sentence that names an edge of THE TAPE, of a WAY, of a GROUP has a test of its own. */
public final class EdgeTextTest {
    private static final int LOW = Check.LOW, HIGH = Check.HIGH, BAD = Check.BAD, NOT = Check.NOT, FULL = Check.FULL;
    private static final String EIGHT = "s1:1;s2:1;s3:1;s4:1;s5:1;s6:1;s7:1;s8:1";
    private static final String TEN = "p1,p1,p1,p1,p1,p1,p1,p1,p1,p1";

    public static void main(String[] args) {
        Check c = new Check("EdgeTextTest");
        typeBytes(c);
        typeFull(c);
        wayTape(c);
        wayMarks(c);
        wayNumbers(c);
        wayFaults(c);
        groupTape(c);
        groupPeople(c);
        groupFaults(c);
        c.finish();
    }

    private static String times(String text, int n) {
        StringBuilder all = new StringBuilder();
        for (int i = 0; i < n; i++) {
            all.append(text);
        }
        return all.toString();
    }

    private static void typeBytes(Check c) {
        typeHowManyOfThem(c);
        typeLowest(c);
        typeHighestFirst(c);
        typeSigns(c);
        typeBadChangesNothing(c);
    }

    private static void typeHowManyOfThem(Check c) {
        c.sentence("9 type", "The n lowest bytes (1 .. 8) of w");
        FlagWalk x = new FlagWalk();
        for (int bad : new int[] {LOW, -1, 0, 9, 16, HIGH}) {
            c.due("type(\"ssssssss\", " + bad + ")", x.type(Check.packed("ssssssss"), bad), BAD);
        }
        c.due("one", x.type(Check.packed("ssssssss"), 1), 1);
        c.due("eight", x.type(Check.packed("ssssssss"), 8), 9);
    }

    private static void typeLowest(Check c) {
        c.sentence("9 type", "The n lowest bytes (1 .. 8) of w");
        FlagWalk x = new FlagWalk();
        c.due("what is above the lowest counts for nothing", x.type(-256L | 's', 1), 1);
        c.due("seven under a byte 0", x.type(Check.packed("5:1;s6:"), 7), 8);
        c.due("one under seven bytes 1", x.type(0x0101010101010100L | '2', 1), 9);
        c.due("way()", x.way(), 2);
        c.due("LENGTH", x.told(0, 1, 1), 2);
    }

    private static void typeHighestFirst(Check c) {
        c.sentence("9 type", "of these the highest first, come behind THE TAPE: how many it has");
        FlagWalk x = new FlagWalk();
        c.due("type(\"s12\", 3)", x.type(Check.packed("s12"), 3), 3);
        c.due("type(\":3\", 2)", x.type(Check.packed(":3"), 2), 5);
        c.due("way()", x.way(), 1);
        c.due("PLACE", x.told(0, 0, 0), 12);
        c.due("LENGTH", x.told(0, 0, 1), 3);
        c.due("the first of an empty TAPE", x.type(' ', 1), 1);
    }

    private static void typeSigns(Check c) {
        c.sentence("9 type", "a byte not 32 .. 126");
        FlagWalk x = new FlagWalk();
        for (int bad : new int[] {0, 1, 31, 127, 128, 200, 255}) {
            c.due("byte " + bad, x.type(bad, 1), BAD);
            c.due("byte " + bad + ", the lowest of 8", x.type(Check.packed("sssssss") << 8 | bad, 8), BAD);
            c.due("byte " + bad + ", the highest of 8", x.type((long) bad << 56 | Check.packed("sssssss"), 8), BAD);
        }
        c.due("byte 32", x.type(32, 1), 1);
        c.due("byte 126", x.type(126, 1), 2);
        c.due("byte 32, eight times", x.type(0x2020202020202020L, 8), 10);
        c.due("byte 126, eight times", x.type(0x7E7E7E7E7E7E7E7EL, 8), 18);
    }

    private static void typeBadChangesNothing(Check c) {
        c.sentence("9 type", "What answers so changes nothing, but as told.");
        FlagWalk x = new FlagWalk();
        Check.type(x, "s5");
        c.due("a byte of three", x.type(Check.packed(":1") << 8 | 31, 3), BAD);
        c.due("n 9", x.type(Check.packed(":1"), 9), BAD);
        c.due("behind s5", x.type(Check.packed(":3"), 2), 4);
        c.due("way()", x.way(), 1);
        c.due("LENGTH", x.told(0, 0, 1), 3);
    }

    private static void typeFull(Check c) {
        c.sentence("9 type", "FULL: 80");
        FlagWalk x = new FlagWalk();
        Check.type(x, times(" ", 79));
        c.due("the last", x.type(' ', 1), 80);
        c.due("one more", x.type(' ', 1), FULL);
        c.due("eight more", x.type(0x2020202020202020L, 8), FULL);
        FlagWalk y = new FlagWalk();
        Check.type(y, times(" ", 72));
        c.due("the last eight", y.type(0x2020202020202020L, 8), 80);
        FlagWalk z = new FlagWalk();
        Check.type(z, times(" ", 73));
        c.due("one too many of eight", z.type(0x2020202020202020L, 8), FULL);

        c.sentence("9 type", "What answers so changes nothing, but as told.");
        c.due("none of the eight came", z.type(Check.packed("s1:1  "), 6), 79);
        c.due("one more", z.type(' ', 1), 80);
        c.due("way()", z.way(), 1);
        c.due("an empty TAPE is not FULL", z.type(0x2020202020202020L, 8), 8);

        c.sentence("9 type", "of several BAD ahead of all others, then the first that a call names");
        c.due("FULL, n 0", x.type(' ', 0), BAD);
        c.due("FULL, n 9", x.type(' ', 9), BAD);
        c.due("FULL, byte 31", x.type(31, 1), BAD);
    }

    private static void wayTape(Check c) {
        c.sentence("10 way", "THE TAPE, which is empty then (by a FAULT, too), is a WAY: how many MARKS.");
        FlagWalk x = new FlagWalk();
        c.due("one", Check.way(x, "s5:1"), 1);
        c.due("empty behind a WAY", x.way(), -20);
        c.due("a FAULT", Check.way(x, "s5:1;x"), -25);
        c.due("empty behind a FAULT", x.way(), -20);
        c.due("the first byte", x.type(' ', 1), 1);
        c.due("eight", Check.way(x, EIGHT), 8);

        c.sentence("10 way", "A FAULT (those told stay).");
        FlagWalk y = new FlagWalk();
        y.mark(0, 7, 4);
        y.value(0, 33);
        y.mark(3, 9, 6);
        for (String text : new String[] {"", "x", "s1:1;", "s1:1;t2:2;w3:3;l4:", "s1:1;s1:1", EIGHT + ";"}) {
            c.due("a FAULT by \"" + text + "\"", Check.way(y, text) <= -20 ? 1 : 0, 1);
            c.due("STOPS", y.count(0), 1);
            c.due("LIGHTS", y.count(1), 0);
            c.due("WINDOWS", y.count(2), 0);
            c.due("TURNS", y.count(3), 1);
            c.due("PLACE", y.told(0, 0, 0), 7);
            c.due("LENGTH", y.told(0, 0, 1), 4);
            c.due("VALUE", y.told(0, 0, 2), 33);
            c.due("TURN", y.told(3, 0, 0), 9);
        }
    }

    private static void wayMarks(Check c) {
        wayHowMany(c);
        wayKinds(c);
        wayInPlace(c);
        wayTakenPlaces(c);
    }

    private static void way(Check c, String text, int due) {
        c.due("way \"" + text + "\"", Check.way(new FlagWalk(), text), due);
    }

    private static void wayHowMany(Check c) {
        c.sentence("10 way", "A WAY is a TEXT: 1 to 8 MARKS with ; between");
        way(c, "s1:1", 1);
        way(c, EIGHT, 8);
        way(c, EIGHT.replace('s', 't'), 8);
        way(c, "", -20);
        way(c, EIGHT + ";s9:1", -59);
        way(c, EIGHT + ";", -59);
        way(c, EIGHT + " ;", -60);
        way(c, ";", -20);
        way(c, ";s1:1", -20);
        way(c, "s1:1;", -25);
        way(c, "s1:1;;s2:1", -25);
        way(c, "s1:1s2:1", -24);
        way(c, "s1:1,s2:1", -24);
    }

    private static void wayKinds(Check c) {
        c.sentence("10 way", "s l w t (kinds in this order)");
        String kinds = "slwt";
        for (int kind = 0; kind < 4; kind++) {
            FlagWalk x = new FlagWalk();
            Check.way(x, kinds.charAt(kind) + "7:5");
            for (int k = 0; k < 4; k++) {
                c.due(kinds.charAt(kind) + ", count(" + k + ")", x.count(k), k == kind ? 1 : 0);
            }
        }
        for (String sign : new String[] {"r", "m", "v", "x", "k", "u", "S", "T", "p", "1", ":", "~"}) {
            way(c, sign + "7:5", -20);
        }
    }

    private static void wayInPlace(Check c) {
        c.sentence("10 way", "in place of all told");
        FlagWalk x = new FlagWalk();
        for (int kind = 0; kind < 4; kind++) {
            x.mark(kind, 3, 5);
            x.mark(kind, 4, 5);
        }
        c.due("way()", Check.way(x, "l3:7"), 1);
        for (int kind = 0; kind < 4; kind++) {
            c.due("count(" + kind + ")", x.count(kind), kind == 1 ? 1 : 0);
        }
        c.due("LENGTH", x.told(1, 0, 1), 7);
        c.due("a STOP where one was", x.mark(0, 3, 5), 0);
        c.due("a WAY of all kinds", Check.way(x, "s0:9;l0:3;w1:9;t0:1"), 4);
        x.person(1, 1, false);
        c.due("LOST at 0", x.fate(0, 3), 0);
        Check.way(x, "s2:2;l2:2;w2:2;t2:2;x");
        c.due("behind a FAULT all are as told", x.count(0) + x.count(1) + x.count(2) + x.count(3), 4);
        c.due("another WAY", Check.way(x, "w9:2"), 1);
        for (int kind = 0; kind < 4; kind++) {
            c.due("then count(" + kind + ")", x.count(kind), kind == 2 ? 1 : 0);
        }
        c.due("nobody is LOST", x.fate(0, 3), -4);
        c.due("she is at the END", x.all(2), 19);
        c.due("he looks at 9 for 2 MINUTES", x.fate(0, 2), 41);
        c.due("RESTED", x.fate(0, 1), 0);
    }

    private static void wayTakenPlaces(Check c) {
        c.sentence("10 way", "No two of a kind are at one PLACE.");
        way(c, "s5:1;l5:2;w5:1;t5:1", 4);
        way(c, "t5:1;t5:1", -26);
        way(c, "w0:1;s0:1;w0:1", -31);
        FlagWalk x = new FlagWalk();
        x.mark(0, 5, 5);
        c.due("one told ahead takes no PLACE of a WAY", Check.way(x, "s5:1"), 1);
    }

    private static void wayNumbers(Check c) {
        wayPlaces(c);
        wayLengths(c);
        wayBlanks(c);
        wayZeros(c);
        wayNumberFaults(c);
    }

    private static void wayPlaces(Check c) {
        c.sentence("10 way", "a number (PLACE)");
        String kinds = "slwt";
        for (int kind = 0; kind < 4; kind++) {
            way(c, kinds.charAt(kind) + "0:5", 1);
            way(c, kinds.charAt(kind) + "99:5", 1);
            way(c, kinds.charAt(kind) + "100:5", -21);
            way(c, kinds.charAt(kind) + "-1:5", -21);
            way(c, kinds.charAt(kind) + ":5", -21);
        }
    }

    private static void wayLengths(Check c) {
        c.sentence("10 way", ": and a number (LENGTH)");
        String kinds = "slwt";
        int[] least = {1, 2, 1, 1};
        int[] most = {20, 20, 20, 50};
        for (int kind = 0; kind < 4; kind++) {
            String ahead = kinds.charAt(kind) + "7:";
            way(c, ahead + least[kind], 1);
            way(c, ahead + most[kind], 1);
            way(c, ahead + (least[kind] - 1), -23);
            way(c, ahead + (most[kind] + 1), -23);
            way(c, ahead + "-1", -23);
            way(c, ahead + ";", -23);
        }
    }

    private static void wayBlanks(Check c) {
        c.sentence("10 way", "bytes 32 count for nothing, but end a number");
        way(c, "  s  1  :  1  ;  t  2  :  2  ", 2);
        way(c, "s1 2:1", -23);
        way(c, "s1:1 2", -25);
        way(c, "s1:1 ;s2:1 5", -31);
        way(c, "s1 :12", 1);
    }

    private static void wayZeros(Check c) {
        c.sentence("10 way", "a number may have 0s ahead");
        FlagWalk x = new FlagWalk();
        c.due("80 bytes", Check.way(x, "s" + times("0", 37) + "99:" + times("0", 37) + "20"), 1);
        c.due("PLACE", x.told(0, 0, 0), 99);
        c.due("LENGTH", x.told(0, 0, 1), 20);
        c.due("PLACE 00", Check.way(x, "s00:01"), 1);
        c.due("PLACE", x.told(0, 0, 0), 0);
    }

    private static void wayNumberFaults(Check c) {
        c.sentence("10 way", "of a number that may not be its first byte");
        way(c, "s 100:1", -22);
        way(c, "s 00100:1", -22);
        way(c, "s1: 021", -24);
        way(c, "s1:000", -23);
        way(c, "s4294967297:1", -21);
        way(c, "s18446744073709551617:1", -21);
        way(c, "s1:4294967297", -23);
        way(c, "s" + times("9", 79), -21);

        c.sentence("10 way", "(of a PLACE taken by one of the kind, too)");
        way(c, "s5:1;s 5:1", -27);
        way(c, "s5:1;s 0005:1", -27);
        way(c, "s5:1;s05", -26);
        way(c, "s5:1;l5:2;s5:0", -31);
    }

    private static void wayFaults(Check c) {
        c.sentence("10 way", "-20 less the place of the first byte (behind blanks) that can't stand there");
        way(c, "x", -20);
        way(c, "   x", -23);
        way(c, "sx", -21);
        way(c, "s  x", -23);
        way(c, "s1x", -22);
        way(c, "s1  x", -24);
        way(c, "s1:x", -23);
        way(c, "s1:1x", -24);
        way(c, "s1:1  x", -26);
        way(c, times(" ", 79) + "x", -99);

        c.sentence("10 way", "(the end: how many bytes there are)");
        way(c, "", -20);
        way(c, " ", -21);
        way(c, times(" ", 80), -100);
        way(c, "s", -21);
        way(c, "s  ", -23);
        way(c, "s1", -22);
        way(c, "s1  ", -24);
        way(c, "s1:", -23);
        way(c, "s1: ", -24);
        way(c, "s1:1; ", -26);
        way(c, "s1:1;" + times(" ", 75), -100);
    }

    private static void groupTape(Check c) {
        c.sentence("11 group", "THE TAPE, which is empty then (by a FAULT, too), is a GROUP: how many.");
        FlagWalk x = new FlagWalk();
        c.due("one", Check.group(x, "p1"), 1);
        c.due("empty behind a GROUP", x.group(), -20);
        c.due("a FAULT", Check.group(x, "p1,x"), -23);
        c.due("empty behind a FAULT", x.group(), -20);
        c.due("the first byte", x.type(' ', 1), 1);
        c.due("ten", Check.group(x, TEN), 10);

        c.sentence("11 group", "A FAULT (those told stay).");
        FlagWalk y = new FlagWalk();
        y.person(2, 3, true);
        y.person(3, 1, false);
        for (String text : new String[] {"", "x", "p1,", "p1,l2,o3,t5", "t1,t1", TEN + ","}) {
            c.due("a FAULT by \"" + text + "\"", Check.group(y, text) <= -20 ? 1 : 0, 1);
            c.due("how many", y.count(4), 2);
            c.due("KIND", y.of(0, 0), 2);
            c.due("PACE", y.of(0, 1), 3);
            c.due("EAR", y.of(0, 2), 1);
            c.due("THE TAIL", y.of(1, 0), 3);
        }
    }

    private static void groupPeople(Check c) {
        groupHowMany(c);
        groupKinds(c);
        groupPaces(c);
        groupEars(c);
        groupInPlace(c);
    }

    private static void group(Check c, String text, int due) {
        c.due("group \"" + text + "\"", Check.group(new FlagWalk(), text), due);
    }

    private static void groupHowMany(Check c) {
        c.sentence("11 group", "A GROUP is a TEXT: 1 to 10 with , between");
        group(c, "p1", 1);
        group(c, TEN, 10);
        group(c, TEN.replace("p1", "o4e"), 10);
        group(c, "", -20);
        group(c, TEN + ",p1", -49);
        group(c, TEN + ",", -49);
        group(c, TEN + " ,", -50);
        group(c, ",p1", -20);
        group(c, "p1,", -23);
        group(c, "p1,,p1", -23);
        group(c, "p1p1", -22);
        group(c, "p1;p1", -22);
        group(c, "p1 p1", -23);
    }

    private static void groupKinds(Check c) {
        c.sentence("11 group", "p l o t (KINDS)");
        String kinds = "plot";
        for (int kind = 0; kind < 4; kind++) {
            FlagWalk x = new FlagWalk();
            Check.group(x, kinds.charAt(kind) + "2");
            c.due("KIND of " + kinds.charAt(kind), x.of(0, 0), kind);
        }
        for (String sign : new String[] {"s", "q", "m", "n", "u", "k", "P", "e", "2", ",", "~"}) {
            group(c, sign + "2", -20);
        }
    }

    private static void groupPaces(Check c) {
        c.sentence("11 group", "a digit (PACE)");
        for (int pace = 1; pace <= 4; pace++) {
            FlagWalk x = new FlagWalk();
            c.due("PACE " + pace, Check.group(x, "p" + pace), 1);
            c.due("told", x.of(0, 1), pace);
        }
        group(c, "p0", -21);
        group(c, "p5", -21);
        group(c, "p9", -21);
        group(c, "p 5", -22);
        group(c, "p-1", -21);
        group(c, "pe", -21);
        group(c, "p12", -22);
        group(c, "p1 2", -23);
    }

    private static void groupEars(Check c) {
        c.sentence("11 group", "perhaps e (an EAR box)");
        FlagWalk x = new FlagWalk();
        c.due("with, without", Check.group(x, "p1e,l2,o3 e,t4"), 4);
        for (int i = 0; i < 4; i++) {
            c.due("EAR of " + i, x.of(i, 2), 1 - i % 2);
        }
        group(c, "p1ee", -23);
        group(c, "p1e e", -24);
        group(c, "p1E", -22);
        group(c, "pe1", -21);
    }

    private static void groupInPlace(Check c) {
        c.sentence("11 group", "in place of those told");
        FlagWalk x = new FlagWalk();
        for (int i = 0; i < 9; i++) {
            x.person(1, 1, true);
        }
        x.person(3, 1, true);
        c.due("where ten were, THE TAIL among them", Check.group(x, "p2,t3"), 2);
        c.due("how many", x.count(4), 2);
        c.due("KIND", x.of(0, 0), 0);
        c.due("PACE", x.of(1, 1), 3);
        c.due("EAR", x.of(1, 2), 0);
        c.due("no third", x.of(2, 0), BAD);
        c.due("one more", x.person(0, 1, false), 2);
        c.due("a second TAIL", x.person(3, 1, false), NOT);
        // THE TAIL goes ahead of the slow one by its number: it is there a MINUTE later.
        c.due("all are THERE", x.all(3), 40);
        Check.group(x, "l4e,t4e,o4e,x");
        c.due("behind a FAULT all are as told", x.count(4), 3);
        c.due("another GROUP", Check.group(x, "t3"), 1);
        c.due("no second", x.of(1, 0), BAD);
        c.due("all are THERE", x.all(3), 19);
    }

    private static void groupFaults(Check c) {
        c.sentence("11 group", "a second TAIL its t");
        group(c, "t1,t1", -23);
        group(c, "t1,  t1", -25);
        group(c, "t1,t", -23);
        group(c, "t1,t9", -23);
        group(c, "p1,t1e,p1,t1", -30);
        group(c, "t1,p1,p1,p1,p1,p1,p1,p1,p1,t1", -47);

        c.sentence("11 group", "-20 less the place of the first byte (behind blanks) that can't stand there");
        group(c, "x", -20);
        group(c, "   x", -23);
        group(c, "p  x", -23);
        group(c, "p1  x", -24);
        group(c, "p1e  x", -25);
        group(c, times(" ", 79) + "x", -99);

        c.sentence("11 group", "(the end: how many bytes there are)");
        group(c, " ", -21);
        group(c, times(" ", 80), -100);
        group(c, "p", -21);
        group(c, "p  ", -23);
        group(c, "p1, ", -24);
        group(c, "p1," + times(" ", 77), -100);

        c.sentence("11 group", "bytes 32 count for nothing");
        group(c, "  p  1  e  ,  t  2  ", 2);
        group(c, times(" ", 78) + "p1", 1);
        group(c, "p1" + times(" ", 78), 1);
    }
}
