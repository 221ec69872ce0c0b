/** Promises 9 to 11: THE TAPE, a WAY, a GROUP. */
public final class TextTest {
    public static void main(String[] args) {
        Check c = new Check("TextTest");
        tape(c);
        ways(c);
        wayFaults(c);
        groups(c);
        groupFaults(c);
        c.finish();
    }

    private static void tape(Check c) {
        FlagWalk x = new FlagWalk();
        for (int bad : new int[] {Integer.MIN_VALUE, -1, 0, 9, Integer.MAX_VALUE}) {
            c.due("type n " + bad, x.type(Check.packed("ssssssss"), bad), -1);
        }
        c.due("byte 31", x.type(31, 1), -1);
        c.due("byte 127", x.type(127, 1), -1);
        c.due("byte 128", x.type(128, 1), -1);
        c.due("byte 255", x.type(-1L, 8), -1);
        c.due("byte 0 ahead", x.type('s', 2), -1);
        c.due("byte 0 in the middle", x.type(('s' << 16) + 's', 3), -1);
        c.due("byte 0 highest of 8", x.type(Check.packed("sssssss"), 8), -1);
        c.due("byte 126", x.type(126, 1), 1);
        c.due("byte 32", x.type(32, 1), 2);
        c.due("the lowest alone", x.type(Check.packed("~~~~~~~s"), 1), 3);
        c.due("~ can't stand", x.way(), -20);
        c.due("empty then", x.way(), -20);
        c.due("highest first", x.type(Check.packed("s7:3"), 4), 4);
        c.due("a way", x.way(), 1);
        c.due("PLACE", x.told(0, 0, 0), 7);
        for (int i = 1; i <= 9; i++) {
            c.due("eight more", x.type(Check.packed("p1,p2,p3"), 8), 8 * i);
        }
        c.due("seven more", x.type(Check.packed("p1,p2,p"), 7), 79);
        c.due("two more", x.type(Check.packed("p1"), 2), -3);
        c.due("two more, BAD", x.type(31, 2), -1);
        c.due("one more", x.type('4', 1), 80);
        c.due("full", x.type('4', 1), -3);
        c.due("full, eight", x.type(Check.packed("44444444"), 8), -3);
        c.due("no comma at 8", x.group(), -28);
        c.due("empty then", x.group(), -20);
        c.due("type anew", x.type(' ', 1), 1);
    }

    private static void ways(Check c) {
        FlagWalk x = new FlagWalk();
        c.due("all kinds", Check.way(x, "s0:1;l0:2;w0:1;t0:1;s99:20;l99:20;w99:20;t99:50"), 8);
        int[] longest = {20, 20, 20, 50};
        int[] shortest = {1, 2, 1, 1};
        for (int kind = 0; kind < 4; kind++) {
            c.due("count " + kind, x.count(kind), 2);
            c.due("PLACE", x.told(kind, 0, 0), 0);
            c.due("LENGTH", x.told(kind, 0, 1), shortest[kind]);
            c.due("PLACE", x.told(kind, 1, 0), 99);
            c.due("LENGTH", x.told(kind, 1, 1), longest[kind]);
        }
        c.due("blanks", Check.way(x, "  s 12 : 4 ; t 0000007 : 0050  "), 2);
        c.due("s", x.told(0, 0, 0), 12);
        c.due("s", x.told(0, 0, 1), 4);
        c.due("t", x.told(3, 0, 0), 7);
        c.due("t", x.told(3, 0, 1), 50);
        c.due("no l", x.count(1), 0);
        c.due("no w", x.count(2), 0);
        String many = "0000000000000000000000000000000000000";
        c.due("many 0s", Check.way(x, "l" + many + "5:" + many + "2"), 1);
        c.due("l", x.told(1, 0, 0), 5);
        c.due("l", x.told(1, 0, 1), 2);
        c.due("the first in the row first", Check.way(x, "w9:1;w3:2"), 2);
        c.due("w", x.told(2, 0, 0), 9);
        c.due("w", x.told(2, 1, 0), 3);
        c.due("alike PLACES of unlike kinds", Check.way(x, "s5:1;l5:2;w5:1;t5:1"), 4);
    }

    private static void fault(Check c, FlagWalk x, String text, int place) {
        c.due("way \"" + text + "\"", Check.way(x, text), -20 - place);
        c.due("those told stay", x.count(0) * 1000 + x.told(0, 0, 0) * 10 + x.told(0, 0, 1), 1074);
        c.due("VALUE stays", x.told(0, 0, 2), 33);
        c.due("TAPE is empty", x.way(), -20);
    }

    private static void wayFaults(Check c) {
        FlagWalk x = new FlagWalk();
        x.mark(0, 7, 4);
        x.value(0, 33);
        fault(c, x, "", 0);
        fault(c, x, "   ", 3);
        fault(c, x, "p1:1", 0);
        fault(c, x, "S1:1", 0);
        fault(c, x, "  x", 2);
        fault(c, x, "s", 1);
        fault(c, x, "s  ", 3);
        fault(c, x, "s:1", 1);
        fault(c, x, "s-1:1", 1);
        fault(c, x, "s1", 2);
        fault(c, x, "s1 2:3", 3);
        fault(c, x, "s1:", 3);
        fault(c, x, "s1: ;", 4);
        fault(c, x, "s1;1", 2);
        fault(c, x, "s1:1 1", 5);
        fault(c, x, "s1:1,", 4);
        fault(c, x, "s1:1;", 5);
        fault(c, x, "s1:1; ", 6);
        fault(c, x, "s1:1;;", 5);
        fault(c, x, "s 100:1", 2);
        fault(c, x, "s 00100:1", 2);
        fault(c, x, "s99999999999999999999:1", 1);
        fault(c, x, "s4294967297:1", 1);
        fault(c, x, "s18446744073709551617:1", 1);
        fault(c, x, "s100x", 1);
        fault(c, x, "s1:0", 3);
        fault(c, x, "s1:21", 3);
        fault(c, x, "s1: 0021", 4);
        fault(c, x, "l1:1", 3);
        fault(c, x, "l1:21", 3);
        fault(c, x, "w1:0", 3);
        fault(c, x, "w1:21", 3);
        fault(c, x, "t1:0", 3);
        fault(c, x, "t1:51", 3);
        fault(c, x, "s5:1;s5:1", 6);
        fault(c, x, "s5:1;s 005x", 7);
        fault(c, x, "s5:1;l5:2;w5:1;t5:1;l5", 21);
        fault(c, x, "s1:1;s2:1;s3:1;s4:1;s5:1;s6:1;s7:1;s8:1;s9:1", 39);
        fault(c, x, "s1:1;s2:1;s3:1;s4:1;s5:1;s6:1;s7:1;s8:1 ;", 40);
        fault(c, x, "s1:1;s2:1;s3:1;s4:1;s5:1;s6:1;s7:1;s8:1 9", 40);
        fault(c, x, "s1:1;s2:1;s3:1;s4:1;s5:1;s6:1;s7:1;s8:0", 38);
        c.due("eight and blanks", Check.way(x, "s1:1;s2:1;s3:1;s4:1;s5:1;s6:1;s7:1;s8:1  "), 8);
    }

    private static void groups(Check c) {
        FlagWalk x = new FlagWalk();
        c.due("all kinds", Check.group(x, "p1,l2e,o3,t4e"), 4);
        for (int i = 0; i < 4; i++) {
            c.due("KIND", x.of(i, 0), i);
            c.due("PACE", x.of(i, 1), i + 1);
            c.due("EAR", x.of(i, 2), i % 2);
        }
        c.due("blanks", Check.group(x, "  t 2 e , p 1  "), 2);
        c.due("count", x.count(4), 2);
        c.due("KIND", x.of(0, 0), 3);
        c.due("EAR", x.of(0, 2), 1);
        c.due("EAR", x.of(1, 2), 0);
        c.due("ten", Check.group(x, "p1,p1,p1,p1,p1,p1,p1,p1,p1,t1e "), 10);
        c.due("full", x.person(0, 1, false), -3);
        c.due("in place", Check.group(x, "t1"), 1);
        c.due("one", x.count(4), 1);
        c.due("second TAIL", x.person(3, 1, false), -2);
        c.due("no TAIL any more", Check.group(x, "p1"), 1);
        c.due("TAIL", x.person(3, 1, false), 1);
    }

    private static void groupFault(Check c, FlagWalk x, String text, int place) {
        c.due("group \"" + text + "\"", Check.group(x, text), -20 - place);
        c.due("those told stay", x.count(4) * 100 + x.of(0, 0) * 10 + x.of(0, 1), 123);
        c.due("TAPE is empty", x.group(), -20);
    }

    private static void groupFaults(Check c) {
        FlagWalk x = new FlagWalk();
        x.person(2, 3, false);
        groupFault(c, x, "", 0);
        groupFault(c, x, "  ", 2);
        groupFault(c, x, "s1", 0);
        groupFault(c, x, " P1", 1);
        groupFault(c, x, "p", 1);
        groupFault(c, x, "p0", 1);
        groupFault(c, x, "p5", 1);
        groupFault(c, x, "p 9", 2);
        groupFault(c, x, "p01", 1);
        groupFault(c, x, "p12", 2);
        groupFault(c, x, "pe", 1);
        groupFault(c, x, "p1ee", 3);
        groupFault(c, x, "p1 E", 3);
        groupFault(c, x, "p1,", 3);
        groupFault(c, x, "p1e, ", 5);
        groupFault(c, x, "p1;p1", 2);
        groupFault(c, x, "p1 p1", 3);
        groupFault(c, x, "t1,p1,t1", 6);
        groupFault(c, x, "t1, t9", 4);
        groupFault(c, x, "t1, t", 4);
        groupFault(c, x, "p1,p1,p1,p1,p1,p1,p1,p1,p1,p1,p1", 29);
        groupFault(c, x, "p1,p1,p1,p1,p1,p1,p1,p1,p1,p1e ,", 31);
        groupFault(c, x, "p1,p1,p1,p1,p1,p1,p1,p1,p1,p1e p", 31);
    }
}
