/** Promises 1 to 8 and 12: a new object, END, MARKS, VALUES, PEOPLE, RULES, how many. */
public final class WayTest {
    private static final int[] SHORTEST = {1, 2, 1, 1};
    private static final int[] LONGEST = {20, 20, 20, 50};
    private static final int LOW = Check.LOW, HIGH = Check.HIGH;

    public static void main(String[] args) {
        Check c = new Check("WayTest");
        newObject(c);
        end(c);
        marks(c);
        values(c);
        people(c);
        rules(c);
        howMany(c);
        c.finish();
    }

    private static void newObject(Check c) {
        FlagWalk x = new FlagWalk();
        for (int what = 0; what <= 5; what++) {
            c.due("new: count(" + what + ")", x.count(what), 0);
        }
        int[] rules = {2, 5, 0, 10, 3};
        for (int r = 0; r < 5; r++) {
            c.due("new: rule(" + r + ")", x.rule(r, rules[r]), rules[r]);
        }
        c.due("new: end", x.end(40), 40);
        c.due("new: restore", x.restore(), -4);
        c.due("new: group", x.group(), -20);
        for (int s = 0; s < 4; s++) {
            c.due("new: drop(" + s + ")", x.drop(s), -11);
        }
        for (int p = 0; p < 144; p++) {
            c.due("new: square(" + p + ")", x.square(p, 0), 0);
        }
    }

    private static void end(Check c) {
        FlagWalk x = new FlagWalk();
        for (int bad : new int[] {LOW, -1, 0, 9, 100, HIGH}) {
            c.due("end(" + bad + ")", x.end(bad), -1);
        }
        c.due("end(10)", x.end(10), 40);
        c.due("end(9)", x.end(9), -1);
        c.due("end(99)", x.end(99), 10);
        c.due("end(50)", x.end(50), 99);
    }

    private static void marks(Check c) {
        FlagWalk x = new FlagWalk();
        for (int kind = 0; kind < 4; kind++) {
            c.due("too short " + kind, x.mark(kind, 0, SHORTEST[kind] - 1), -1);
            c.due("too long " + kind, x.mark(kind, 0, LONGEST[kind] + 1), -1);
            c.due("PLACE -1", x.mark(kind, -1, 5), -1);
            c.due("PLACE 100", x.mark(kind, 100, 5), -1);
            c.due("count " + kind, x.count(kind), 0);
            c.due("told none", x.told(kind, 0, 0), -1);
            c.due("first " + kind, x.mark(kind, 0, SHORTEST[kind]), 0);
            c.due("second " + kind, x.mark(kind, 99, LONGEST[kind]), 1);
            c.due("taken " + kind, x.mark(kind, 99, 5), -2);
            c.due("taken, but BAD " + kind, x.mark(kind, 99, 0), -1);
            for (int i = 2; i < 8; i++) {
                c.due("mark " + i, x.mark(kind, 50 - i, 10 + i), i);
            }
            c.due("full " + kind, x.mark(kind, 3, 5), -3);
            c.due("taken, full " + kind, x.mark(kind, 0, 5), -2);
            c.due("BAD, full " + kind, x.mark(kind, 3, 51), -1);
            c.due("count " + kind, x.count(kind), 8);
            c.due("PLACE 0", x.told(kind, 0, 0), 0);
            c.due("LENGTH 0", x.told(kind, 0, 1), SHORTEST[kind]);
            c.due("PLACE 1", x.told(kind, 1, 0), 99);
            c.due("LENGTH 1", x.told(kind, 1, 1), LONGEST[kind]);
            c.due("VALUE 0", x.told(kind, 0, 2), kind == 0 ? 10 : -1);
            for (int i = 2; i < 8; i++) {
                c.due("PLACE " + i, x.told(kind, i, 0), 50 - i);
                c.due("LENGTH " + i, x.told(kind, i, 1), 10 + i);
            }
            for (int bad : new int[] {LOW, -1, 8, HIGH}) {
                c.due("told mark " + bad, x.told(kind, bad, 0), -1);
            }
            for (int bad : new int[] {LOW, -1, 3, HIGH}) {
                c.due("told what " + bad, x.told(kind, 0, bad), -1);
            }
        }
        for (int bad : new int[] {LOW, -1, 4, HIGH}) {
            c.due("mark kind " + bad, x.mark(bad, 1, 5), -1);
            c.due("told kind " + bad, x.told(bad, 0, 0), -1);
        }
    }

    private static void values(Check c) {
        FlagWalk x = new FlagWalk();
        c.due("value without STOPS", x.value(0, 5), -1);
        x.mark(0, 60, 3);
        x.mark(0, 5, 3);
        x.mark(1, 6, 3);
        x.mark(1, 7, 3);
        x.mark(1, 8, 3);
        c.due("value(0, 0), not met", x.value(0, 0), 10);
        c.due("value(1, 99)", x.value(1, 99), 10);
        c.due("value(1, 98)", x.value(1, 98), 99);
        c.due("value(0, 1)", x.value(0, 1), 0);
        for (int bad : new int[] {LOW, -1, 100, HIGH}) {
            c.due("value(0, " + bad + ")", x.value(0, bad), -1);
        }
        for (int bad : new int[] {LOW, -1, 2, 8, HIGH}) {
            c.due("value(" + bad + ", 0)", x.value(bad, 0), -1);
        }
        c.due("told 0", x.told(0, 0, 2), 1);
        c.due("told 1", x.told(0, 1, 2), 98);
        c.due("a new STOP", x.mark(0, 9, 3), 2);
        c.due("its VALUE", x.told(0, 2, 2), 10);
        c.due("way in place", Check.way(x, "s5:3;s6:3"), 2);
        c.due("VALUE of new", x.told(0, 1, 2), 10);
    }

    private static void people(Check c) {
        FlagWalk x = new FlagWalk();
        c.due("of nobody", x.of(0, 0), -1);
        for (int bad : new int[] {LOW, -1, 4, HIGH}) {
            c.due("person kind " + bad, x.person(bad, 1, true), -1);
        }
        for (int bad : new int[] {LOW, 0, 5, HIGH}) {
            c.due("person pace " + bad, x.person(0, bad, true), -1);
        }
        c.due("TAIL", x.person(3, 4, true), 0);
        c.due("second TAIL", x.person(3, 1, false), -2);
        c.due("second TAIL, BAD", x.person(3, 0, false), -1);
        for (int i = 1; i < 10; i++) {
            c.due("person " + i, x.person(i % 3, 1 + i % 4, i % 2 == 0), i);
        }
        c.due("full", x.person(0, 1, true), -3);
        c.due("second TAIL, full", x.person(3, 1, false), -2);
        c.due("BAD, full", x.person(0, 5, false), -1);
        c.due("KIND 0", x.of(0, 0), 3);
        c.due("PACE 0", x.of(0, 1), 4);
        c.due("EAR 0", x.of(0, 2), 1);
        for (int i = 1; i < 10; i++) {
            c.due("KIND " + i, x.of(i, 0), i % 3);
            c.due("PACE " + i, x.of(i, 1), 1 + i % 4);
            c.due("EAR " + i, x.of(i, 2), 1 - i % 2);
        }
        for (int bad : new int[] {LOW, -1, 10, HIGH}) {
            c.due("of(" + bad + ")", x.of(bad, 0), -1);
        }
        for (int bad : new int[] {LOW, -1, 3, HIGH}) {
            c.due("of what " + bad, x.of(0, bad), -1);
        }
        FlagWalk y = new FlagWalk();
        for (int i = 0; i < 10; i++) {
            y.person(0, 1, false);
        }
        c.due("first TAIL, full", y.person(3, 1, false), -3);
    }

    private static void rules(Check c) {
        FlagWalk x = new FlagWalk();
        int[] least = {1, 0, 0, 0, 1};
        int[] most = {4, 10, 9, 30, 20};
        int[] first = {2, 5, 0, 10, 3};
        for (int r = 0; r < 5; r++) {
            c.due("rule least " + r, x.rule(r, least[r]), first[r]);
            c.due("rule below " + r, x.rule(r, least[r] - 1), -1);
            c.due("rule above " + r, x.rule(r, most[r] + 1), -1);
            c.due("rule LOW " + r, x.rule(r, LOW), -1);
            c.due("rule HIGH " + r, x.rule(r, HIGH), -1);
            c.due("rule most " + r, x.rule(r, most[r]), least[r]);
            c.due("rule again " + r, x.rule(r, least[r]), most[r]);
        }
        for (int bad : new int[] {LOW, -1, 5, HIGH}) {
            c.due("rule(" + bad + ")", x.rule(bad, 1), -1);
        }
    }

    private static void howMany(Check c) {
        FlagWalk x = new FlagWalk();
        x.mark(0, 0, 1);
        x.mark(0, 39, 1);
        x.mark(0, 40, 1);
        x.mark(0, 99, 1);
        x.mark(1, 3, 2);
        x.mark(2, 3, 2);
        x.mark(2, 4, 2);
        x.mark(3, 3, 2);
        x.mark(3, 4, 2);
        x.mark(3, 5, 2);
        x.person(1, 1, false);
        int[] due = {4, 1, 2, 3, 1, 2};
        for (int what = 0; what <= 5; what++) {
            c.due("count(" + what + ")", x.count(what), due[what]);
        }
        x.end(41);
        c.due("met, END 41", x.count(5), 3);
        x.end(99);
        c.due("met, END 99", x.count(5), 3);
        x.end(39);
        c.due("met, END 39", x.count(5), 1);
        for (int bad : new int[] {LOW, -1, 6, HIGH}) {
            c.due("count(" + bad + ")", x.count(bad), -1);
        }
    }
}
