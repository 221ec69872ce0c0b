/** Promises 26 to 30: each sentence that names an edge of SLOTS, of SHEETS has a test of its own. */
public final class EdgeSheetTest {
    private static final int LOW = Check.LOW, HIGH = Check.HIGH, BAD = Check.BAD, NOT = Check.NOT;
    private static final int NULL = Check.NULL, CAST = Check.CAST, INDEX = Check.INDEX, SIZE = Check.SIZE;

    public static void main(String[] args) {
        Check c = new Check("EdgeSheetTest");
        slotsBounds(c);
        slotsRefusals(c);
        slotsNot(c);
        slotsOrder(c);
        sheet(c);
        drop(c);
        itemRefusals(c);
        itemBits(c);
        copyRefusals(c);
        copyIndex(c);
        copyTaken(c);
        c.finish();
    }

    private static void put(FlagWalk x, int sheet, int lane, int... items) {
        x.sheet(sheet, lane, items.length);
        for (int i = 0; i < items.length; i++) {
            x.item(sheet, lane, i, items[i]);
        }
    }

    private static FlagWalk with(int lane, int... items) {
        FlagWalk x = new FlagWalk();
        put(x, 0, lane, items);
        return x;
    }

    /** Items of SHEET 0, a row of shorts from 0 to 49: as a MINUTE one waits for a group there from 0 to 50. */
    private static void holds(Check c, String what, FlagWalk x, int... due) {
        put(x, 3, 1, 0, 50, 0, 99);
        for (int i = 0; i < due.length; i++) {
            x.copy(0, i, 3, 2, 1);
            c.due(what + ", item " + i, 50 - x.slots(3, 1, 0, 2, -1), due[i]);
        }
    }

    // ---- SLOTS

    private static void slotsBounds(Check c) {
        c.sentence("26 slots", "SLOTS: of n groups (2 .. 6)");
        FlagWalk x = new FlagWalk();
        x.sheet(0, 0, 24);
        for (int i = 1; i < 24; i += 2) {
            x.item(0, 0, i, 1);
        }
        for (int bad : new int[] {LOW, -1, 0, 1, 7, 12, HIGH}) {
            c.due("slots(0, 0, 0, " + bad + ", -1)", x.slots(0, 0, 0, bad, -1), BAD);
        }
        c.due("two", x.slots(0, 0, 0, 2, -1), 1);
        c.due("six", x.slots(0, 0, 0, 6, -1), 15);

        c.sentence("26 slots", "MINUTES waited (-1), which goes k-th (0 ..). BAD;");
        for (int n = 2; n <= 6; n++) {
            for (int bad : new int[] {LOW, -2, n, HIGH}) {
                c.due("slots(0, 0, 0, " + n + ", " + bad + ")", x.slots(0, 0, 0, n, bad), BAD);
            }
            c.due("the first of " + n, x.slots(0, 0, 0, n, 0), 0);
            c.due("the last of " + n, x.slots(0, 0, 0, n, n - 1), n - 1);
        }

        c.sentence("26 slots", "---- 4 sheets 0 .. 3: nothing (at first), or a row of a LANE:"
                + " 0 bytes, 1 shorts, 2 ints");
        for (int bad : new int[] {LOW, -1, 4, HIGH}) {
            c.due("slots(" + bad + ", 0, 0, 2, -1)", x.slots(bad, 0, 0, 2, -1), BAD);
        }
        for (int bad : new int[] {LOW, -1, 3, HIGH}) {
            c.due("slots(0, " + bad + ", 0, 2, -1)", x.slots(0, bad, 0, 2, -1), BAD);
        }
        for (int lane = 0; lane < 3; lane++) {
            put(x, 3, lane, 0, 5, 0, 5);
            c.due("SHEET 3, LANE " + lane, x.slots(3, lane, 0, 2, -1), 5);
        }
    }

    private static void slotsRefusals(Check c) {
        c.sentence("26 slots", "NULL -11");
        FlagWalk x = new FlagWalk();
        for (int sheet = 0; sheet < 4; sheet++) {
            c.due("SHEET " + sheet + " holds nothing", x.slots(sheet, 0, 0, 2, -1), NULL);
        }
        x.sheet(0, 0, 4);
        x.drop(0);
        c.due("nothing any more", x.slots(0, 0, 0, 2, -1), NULL);

        c.sentence("26 slots", "CAST -12 (of SHEETS another LANE)");
        for (int lane = 0; lane < 3; lane++) {
            x = with(lane, 0, 5, 0, 5);
            for (int as = 0; as < 3; as++) {
                c.due("LANE " + lane + " as " + as, x.slots(0, as, 0, 2, -1), as == lane ? 5 : CAST);
            }
        }

        c.sentence("26 slots", "from item i on");
        x = with(0, 0, 1, 0, 1, 0, 1, 0, 1, 0, 1, 0, 1, 0, 1, 0, 1, 0, 1, 0, 1, 0, 1, 0, 1);
        c.due("the last six of twelve", x.slots(0, 0, 12, 6, -1), 15);
        c.due("one item too few", x.slots(0, 0, 13, 6, -1), INDEX);
        c.due("the last two", x.slots(0, 0, 20, 2, -1), 1);
        c.due("one item too few", x.slots(0, 0, 21, 2, -1), INDEX);
        for (int bad : new int[] {LOW, -1, 23, 24, 25, HIGH}) {
            c.due("from " + bad, x.slots(0, 0, bad, 2, -1), INDEX);
        }
        x = with(1, 0, 1, 0);
        c.due("three items for two", x.slots(0, 1, 0, 2, -1), INDEX);
        x.sheet(0, 1, 0);
        c.due("no item", x.slots(0, 1, 0, 2, -1), INDEX);

        c.sentence("26 slots", "(NULL, CAST, INDEX, SIZE in this order;");
        x = new FlagWalk();
        c.due("nothing, and no item: NULL", x.slots(0, 0, -1, 2, -1), NULL);
        x.sheet(0, 1, 3);
        c.due("another LANE, and no item: CAST", x.slots(0, 0, -1, 2, -1), CAST);
        c.due("no item, and not as told: INDEX", x.slots(0, 1, 0, 2, -1), INDEX);
        x.sheet(0, 1, 4);
        c.due("another LANE, and not as told: CAST", x.slots(0, 0, 0, 2, -1), CAST);

        c.sentence("26 slots", "of several BAD ahead of all others, then the first that a call names");
        c.due("not as told, n 7: BAD", x.slots(0, 1, 0, 7, -1), BAD);
        c.due("not as told, k 2: BAD", x.slots(0, 1, 0, 2, 2), BAD);
        c.due("no item, k 2: BAD", x.slots(0, 1, 4, 2, 2), BAD);
        c.due("another LANE, k 2: BAD", x.slots(0, 0, 0, 2, 2), BAD);
        c.due("nothing, k 2: BAD", x.slots(1, 0, 0, 2, 2), BAD);
    }

    private static void slotsNot(Check c) {
        c.sentence("26 slots", "two items each (a MINUTE 0 .. 999, how long 1 .. 99)");
        for (int lane = 1; lane < 3; lane++) {
            c.due("MINUTE 0", with(lane, 0, 1, 999, 1).slots(0, lane, 0, 2, -1), 0);
            c.due("how long 99", with(lane, 999, 99, 999, 99).slots(0, lane, 0, 2, -1), 99);
        }

        c.sentence("26 slots", "NOT: one is not as told.");
        int[][] wrong = {{-1, 1}, {1000, 1}, {0, 0}, {0, 100}, {0, -1}, {-32768, 1}, {32767, 1}, {0, 32767}};
        for (int[] w : wrong) {
            for (int at = 0; at < 3; at++) {
                int[] items = {0, 1, 0, 1, 0, 1};
                items[2 * at] = w[0];
                items[2 * at + 1] = w[1];
                FlagWalk x = with(1, items);
                c.due("group " + at + " is " + w[0] + " " + w[1], x.slots(0, 1, 0, 3, -1), NOT);
                c.due("those that are not taken may be so", x.slots(0, 1, 0, 2, -1), at == 2 ? 1 : NOT);
                c.due("those that are not taken may be so", x.slots(0, 1, 2, 2, -1), at == 0 ? 1 : NOT);
            }
        }
        c.due("ints: the least", with(2, LOW, 1, 0, 1).slots(0, 2, 0, 2, -1), NOT);
        c.due("ints: the most", with(2, 0, 1, 0, HIGH).slots(0, 2, 0, 2, -1), NOT);
    }

    private static void order(Check c, String what, FlagWalk x, int waited, int... due) {
        c.due(what + ", waited", x.slots(0, 1, 0, due.length, -1), waited);
        for (int k = 0; k < due.length; k++) {
            c.due(what + ", goes " + k, x.slots(0, 1, 0, due.length, k), due[k]);
        }
    }

    private static void slotsOrder(Check c) {
        c.sentence("26 slots", "the order by which MINUTES waited together are least, of like ones the first as a row");
        order(c, "six alike", with(1, 0, 10, 0, 10, 0, 10, 0, 10, 0, 10, 0, 10), 150, 0, 1, 2, 3, 4, 5);
        order(c, "the shortest first", with(1, 0, 6, 0, 5, 0, 4, 0, 3, 0, 2, 0, 1), 35, 5, 4, 3, 2, 1, 0);
        order(c, "as they come", with(1, 30, 5, 20, 5, 10, 5), 0, 2, 1, 0);
        order(c, "nobody waits, by one order alone", with(1, 5, 5, 0, 5), 0, 1, 0);
        order(c, "of like ones the first", with(1, 0, 2, 0, 1, 0, 1), 3, 1, 2, 0);
        order(c, "the most", with(1, 0, 99, 0, 99, 0, 99, 0, 99, 0, 99, 0, 99), 1485, 0, 1, 2, 3, 4, 5);

        c.sentence("26 slots", "(2 to 6 groups; one on it at a time)");
        order(c, "the next goes as the first is over", with(1, 0, 5, 5, 5), 0, 0, 1);
        order(c, "it waits one MINUTE", with(1, 0, 5, 4, 5), 1, 0, 1);
        // The long one first: the other waits 49. The other first: the long one waits from 0 to 2.
        order(c, "a long one waits for a short one that comes behind it", with(1, 0, 50, 1, 1), 2, 1, 0);
    }

    // ---- SHEETS

    private static void sheet(Check c) {
        c.sentence("27 sheet", "of 0 to 24 items");
        FlagWalk x = new FlagWalk();
        for (int n = 0; n <= 24; n++) {
            c.due("sheet(3, 2, " + n + ")", x.sheet(3, 2, n), n);
            c.due("item behind the last", x.item(3, 2, n, 1), INDEX);
            c.due("the last item", x.item(3, 2, n - 1, 1), n == 0 ? INDEX : 1);
        }

        c.sentence("27 sheet", "BAD: also n above 24; SIZE: n below 0.");
        c.due("25", x.sheet(3, 2, 25), BAD);
        c.due("HIGH", x.sheet(3, 2, HIGH), BAD);
        c.due("-1", x.sheet(3, 2, -1), SIZE);
        c.due("LOW", x.sheet(3, 2, LOW), SIZE);

        c.sentence("27 sheet", "of several BAD ahead of all others, then the first that a call names");
        for (int bad : new int[] {LOW, -1, 4, HIGH}) {
            c.due("sheet(" + bad + ", 0, 1)", x.sheet(bad, 0, 1), BAD);
            c.due("sheet(" + bad + ", 0, -1)", x.sheet(bad, 0, -1), BAD);
        }
        for (int bad : new int[] {LOW, -1, 3, HIGH}) {
            c.due("sheet(0, " + bad + ", 1)", x.sheet(0, bad, 1), BAD);
            c.due("sheet(0, " + bad + ", -1)", x.sheet(0, bad, -1), BAD);
        }

        c.sentence("27 sheet", "What answers so changes nothing, but as told.");
        x = with(1, 7, 8, 9);
        x.sheet(0, 1, 25);
        x.sheet(0, 1, -1);
        x.sheet(0, 3, 2);
        holds(c, "as it was", x, 7, 8, 9);
        c.due("how many", x.drop(0), 3);
        x.sheet(0, 0, 25);
        x.sheet(0, 0, -1);
        c.due("nothing, as it was", x.drop(0), NULL);

        c.sentence("27 sheet", "A SHEET holds a new row of a LANE: n.");
        x = with(2, 1, 2, 3, 4, 5);
        c.due("in place of the old one", x.sheet(0, 1, 3), 3);
        c.due("of the new LANE", x.item(0, 1, 1, 5), 1);
        c.due("not of the old", x.item(0, 2, 1, 5), CAST);
        holds(c, "all 0 but one", x, 0, 5, 0);
        c.due("as many again", x.sheet(0, 1, 3), 3);
        holds(c, "all 0", x, 0, 0, 0);
        c.due("as many as it has", x.drop(0), 3);
        c.due("other SHEETS hold what they held", x.drop(3), 4);
        c.due("or nothing", x.drop(1), NULL);
    }

    private static void drop(Check c) {
        c.sentence("28 drop", "A SHEET holds nothing: how many items it had.");
        FlagWalk x = new FlagWalk();
        for (int sheet = 0; sheet < 4; sheet++) {
            x.sheet(sheet, sheet % 3, 8 * sheet);
        }
        for (int sheet = 0; sheet < 4; sheet++) {
            c.due("drop(" + sheet + ")", x.drop(sheet), 8 * sheet);
        }

        c.sentence("28 drop", "BAD; NULL.");
        for (int sheet = 0; sheet < 4; sheet++) {
            c.due("drop(" + sheet + ") again", x.drop(sheet), NULL);
            c.due("never held", new FlagWalk().drop(sheet), NULL);
        }
        for (int bad : new int[] {LOW, -1, 4, HIGH}) {
            c.due("drop(" + bad + ")", x.drop(bad), BAD);
        }
        x.sheet(1, 0, 0);
        c.due("no items are not nothing", x.drop(1), 0);
        c.due("then nothing", x.drop(1), NULL);
    }

    private static void itemRefusals(Check c) {
        c.sentence("29 item", "becomes v, its lowest bits: 1. BAD;");
        FlagWalk x = with(0, 1, 2, 3);
        for (int bad : new int[] {LOW, -1, 4, HIGH}) {
            c.due("item(" + bad + ", 0, 0, 0)", x.item(bad, 0, 0, 0), BAD);
        }
        for (int bad : new int[] {LOW, -1, 3, HIGH}) {
            c.due("item(0, " + bad + ", 0, 0)", x.item(0, bad, 0, 0), BAD);
        }
        for (int v : new int[] {LOW, -1, 0, 255, HIGH}) {
            c.due("v is never BAD", x.item(0, 0, 0, v), 1);
        }

        c.sentence("29 item", "NULL; CAST; INDEX.");
        c.due("nothing", x.item(1, 0, 0, 0), NULL);
        c.due("nothing, no item", x.item(1, 0, -1, 0), NULL);
        c.due("another LANE", x.item(0, 1, 0, 0), CAST);
        c.due("another LANE, no item", x.item(0, 2, 3, 0), CAST);
        for (int bad : new int[] {LOW, -1, 3, 4, 24, HIGH}) {
            c.due("item(0, 0, " + bad + ", 0)", x.item(0, 0, bad, 0), INDEX);
        }
        c.due("the first", x.item(0, 0, 0, 0), 1);
        c.due("the last", x.item(0, 0, 2, 0), 1);
        c.due("BAD ahead of NULL", x.item(1, 3, 0, 0), BAD);
        c.due("BAD ahead of INDEX", x.item(0, 3, 3, 0), BAD);
        x.sheet(0, 0, 0);
        c.due("of no item", x.item(0, 0, 0, 0), INDEX);
        x.sheet(0, 0, 24);
        c.due("the last of 24", x.item(0, 0, 23, 0), 1);
        c.due("behind it", x.item(0, 0, 24, 0), INDEX);

        c.sentence("29 item", "What answers so changes nothing, but as told.");
        x = with(1, 7, 8, 9);
        x.item(0, 1, 3, 5);
        x.item(0, 1, -1, 5);
        x.item(0, 0, 0, 5);
        x.item(0, 2, 1, 5);
        x.item(0, 3, 2, 5);
        holds(c, "as it was", x, 7, 8, 9);
    }

    /** A group from 0 on, and one that comes at MINUTE v: the second waits 99 less v, or v is not as told. */
    private static void minute(Check c, int lane, int v, int due) {
        c.due("LANE " + lane + ", " + v, with(lane, 0, 99, v, 99).slots(0, lane, 0, 2, -1), due);
    }

    private static void itemBits(Check c) {
        c.sentence("29 item", "0 bytes, 1 shorts, 2 ints (all with a sign)");
        minute(c, 0, 5, 94);
        minute(c, 0, 127, 0);
        minute(c, 0, 128, NOT);
        minute(c, 0, 255, NOT);
        minute(c, 0, -1, NOT);
        minute(c, 1, 128, 0);
        minute(c, 1, 255, 0);
        minute(c, 1, 999, 0);
        minute(c, 1, 32768, NOT);
        minute(c, 1, 65535, NOT);
        minute(c, 2, 999, 0);
        minute(c, 2, -1, NOT);
        minute(c, 2, LOW, NOT);

        c.sentence("29 item", "becomes v, its lowest bits");
        minute(c, 0, 256 + 5, 94);
        minute(c, 0, -256 + 5, 94);
        minute(c, 0, LOW + 5, 94);
        minute(c, 0, -128, NOT);
        minute(c, 0, -129, 0);
        minute(c, 1, 65536 + 5, 94);
        minute(c, 1, -65536 + 5, 94);
        minute(c, 1, LOW + 5, 94);
        minute(c, 1, 256 + 5, 0);
        minute(c, 2, 65536 + 5, NOT);
        minute(c, 2, LOW + 5, NOT);
    }

    // ---- copies

    private static void copyRefusals(Check c) {
        c.sentence("30 copy", "BAD; NULL (either);");
        FlagWalk x = with(1, 7, 8, 9);
        x.sheet(1, 1, 3);
        for (int bad : new int[] {LOW, -1, 4, HIGH}) {
            c.due("from " + bad, x.copy(bad, 0, 0, 0, 1), BAD);
            c.due("to " + bad, x.copy(0, 0, bad, 0, 1), BAD);
            c.due("from nothing to " + bad, x.copy(2, 0, bad, 0, 1), BAD);
        }
        c.due("from nothing", x.copy(2, 0, 0, 0, 1), NULL);
        c.due("to nothing", x.copy(0, 0, 3, 0, 1), NULL);
        c.due("from nothing to nothing", x.copy(2, 0, 3, 0, 1), NULL);
        c.due("from nothing to itself", x.copy(2, 0, 2, 0, 0), NULL);
        c.due("from nothing, no item", x.copy(2, -1, 0, 0, 1), NULL);
        c.due("to nothing, no item", x.copy(0, -1, 3, 0, 1), NULL);

        c.sentence("30 copy", "CAST: of unlike LANES;");
        for (int from = 0; from < 3; from++) {
            for (int to = 0; to < 3; to++) {
                x.sheet(0, from, 3);
                x.sheet(1, to, 3);
                c.due("LANE " + from + " to " + to, x.copy(0, 0, 1, 0, 3), from == to ? 3 : CAST);
                c.due("LANE " + from + " to " + to + ", no item", x.copy(0, 0, 1, 0, 4), from == to ? INDEX : CAST);
                c.due("LANE " + from + " to " + to + ", none", x.copy(0, 0, 1, 0, 0), from == to ? 0 : CAST);
            }
        }

        c.sentence("30 copy", "What answers so changes nothing, but as told.");
        x = with(1, 7, 8, 9);
        put(x, 1, 1, 1, 2, 3, 4);
        put(x, 2, 2, 1, 2, 3, 4);
        x.copy(1, 0, 0, 0, 4);
        x.copy(1, 2, 0, 0, 3);
        x.copy(1, 0, 0, 1, 3);
        x.copy(1, 0, 0, -1, 2);
        x.copy(1, -1, 0, 0, 2);
        x.copy(2, 0, 0, 0, 3);
        holds(c, "as it was", x, 7, 8, 9);
        c.due("how many", x.drop(0), 3);
    }

    private static void copyIndex(Check c) {
        c.sentence("30 copy", "INDEX (n below 0, too; with n 0, too, if i or j is above how many there are)");
        FlagWalk x = new FlagWalk();
        x.sheet(0, 0, 6);
        x.sheet(1, 0, 4);
        for (int bad : new int[] {LOW, -1}) {
            c.due("n " + bad, x.copy(0, 0, 1, 0, bad), INDEX);
            c.due("n " + bad + " at the ends", x.copy(0, 6, 1, 4, bad), INDEX);
        }
        c.due("n 0", x.copy(0, 0, 1, 0, 0), 0);
        c.due("n 0 at the ends", x.copy(0, 6, 1, 4, 0), 0);
        c.due("n 0, i above", x.copy(0, 7, 1, 4, 0), INDEX);
        c.due("n 0, j above", x.copy(0, 6, 1, 5, 0), INDEX);
        c.due("n 0, i HIGH", x.copy(0, HIGH, 1, 4, 0), INDEX);
        c.due("n 0, j HIGH", x.copy(0, 6, 1, HIGH, 0), INDEX);

        c.sentence("30 copy", "INDEX also where no item is taken, if i, j is below 0, or above how many there are");
        c.due("n 0, i -1", x.copy(0, -1, 1, 4, 0), INDEX);
        c.due("n 0, j -1", x.copy(0, 6, 1, -1, 0), INDEX);
        c.due("n 0, i LOW", x.copy(0, LOW, 1, 4, 0), INDEX);
        c.due("n 0, j LOW", x.copy(0, 6, 1, LOW, 0), INDEX);
        x.sheet(2, 0, 0);
        c.due("of no items none", x.copy(2, 0, 2, 0, 0), 0);
        c.due("of no items none from 1", x.copy(2, 1, 2, 0, 0), INDEX);
        c.due("of no items one", x.copy(2, 0, 1, 0, 1), INDEX);

        c.sentence("30 copy", "INDEX -13");
        c.due("all that fit", x.copy(0, 2, 1, 0, 4), 4);
        c.due("one too many from i on", x.copy(0, 3, 1, 0, 4), INDEX);
        c.due("one too many from j on", x.copy(0, 0, 1, 1, 4), INDEX);
        c.due("i and n below 0", x.copy(0, -1, 1, 0, -1), INDEX);
        c.due("the last", x.copy(0, 5, 1, 3, 1), 1);
        c.due("behind the last of one", x.copy(0, 6, 1, 3, 1), INDEX);
        c.due("behind the last of the other", x.copy(0, 5, 1, 4, 1), INDEX);
        c.due("n HIGH", x.copy(0, 1, 1, 1, HIGH), INDEX);
        c.due("i HIGH, n HIGH", x.copy(0, HIGH, 1, 1, HIGH), INDEX);
        c.due("i LOW, n HIGH", x.copy(0, LOW, 1, 0, HIGH), INDEX);
        x.sheet(0, 0, 24);
        x.sheet(1, 0, 24);
        c.due("all of 24", x.copy(0, 0, 1, 0, 24), 24);
        c.due("25", x.copy(0, 0, 1, 0, 25), INDEX);
    }

    private static void copyTaken(Check c) {
        c.sentence("30 copy", "come to another one (or the same) from j on, as if all were taken ahead: n.");
        FlagWalk x = with(1, 1, 2, 3, 4, 5);
        c.due("onward over itself", x.copy(0, 0, 0, 1, 4), 4);
        holds(c, "onward over itself", x, 1, 1, 2, 3, 4);
        x = with(1, 1, 2, 3, 4, 5);
        c.due("back over itself", x.copy(0, 1, 0, 0, 4), 4);
        holds(c, "back over itself", x, 2, 3, 4, 5, 5);
        x = with(1, 1, 2, 3, 4, 5);
        c.due("to where they are", x.copy(0, 0, 0, 0, 5), 5);
        holds(c, "to where they are", x, 1, 2, 3, 4, 5);
        put(x, 1, 1, 11, 12, 13);
        c.due("none", x.copy(1, 3, 0, 5, 0), 0);
        holds(c, "none", x, 1, 2, 3, 4, 5);
        c.due("from another", x.copy(1, 1, 0, 3, 2), 2);
        holds(c, "from another", x, 1, 2, 3, 12, 13);
        c.due("back to it", x.copy(0, 0, 1, 0, 3), 3);
        c.due("and from it", x.copy(1, 0, 0, 2, 3), 3);
        holds(c, "from it", x, 1, 2, 1, 2, 3);
    }
}
