/** Promises 26 to 30: SLOTS, SHEETS. */
public final class SheetTest {
    private static final int LOW = Check.LOW, HIGH = Check.HIGH;

    public static void main(String[] args) {
        Check c = new Check("SheetTest");
        sheets(c);
        items(c);
        copies(c);
        copiesByTrying(c);
        slotsRefused(c);
        slotsByTrying(c);
        c.finish();
    }

    private static void put(FlagWalk x, int sheet, int lane, int... items) {
        x.sheet(sheet, lane, items.length);
        for (int i = 0; i < items.length; i++) {
            x.item(sheet, lane, i, items[i]);
        }
    }

    private static void sheets(Check c) {
        FlagWalk x = new FlagWalk();
        for (int bad : new int[] {LOW, -1, 4, HIGH}) {
            c.due("sheet(" + bad + ")", x.sheet(bad, 0, 1), -1);
            c.due("sheet(" + bad + "), SIZE", x.sheet(bad, 0, -1), -1);
            c.due("drop(" + bad + ")", x.drop(bad), -1);
        }
        for (int bad : new int[] {LOW, -1, 3, HIGH}) {
            c.due("sheet lane " + bad, x.sheet(0, bad, 1), -1);
            c.due("sheet lane " + bad + ", SIZE", x.sheet(0, bad, -1), -1);
        }
        for (int bad : new int[] {25, HIGH}) {
            c.due("sheet n " + bad, x.sheet(0, 0, bad), -1);
        }
        c.due("nothing was made", x.drop(0), -11);
        for (int sheet = 0; sheet < 4; sheet++) {
            x = new FlagWalk();
            for (int n = 0; n <= 24; n++) {
                c.due("sheet " + n, x.sheet(sheet, n % 3, n), n);
                c.due("below 0", x.sheet(sheet, 0, -1), -14);
                c.due("LOW", x.sheet(sheet, 0, LOW), -14);
                c.due("above 24", x.sheet(sheet, 0, 25), -1);
                c.due("drop " + n, x.drop(sheet), n);
                c.due("drop again", x.drop(sheet), -11);
            }
        }
        x.sheet(0, 1, 4);
        x.sheet(0, 2, 7);
        c.due("of another LANE", x.item(0, 1, 0, 1), -12);
        c.due("as its own", x.item(0, 2, 6, 1), 1);
        c.due("how many", x.drop(0), 7);
    }

    private static void items(Check c) {
        FlagWalk x = new FlagWalk();
        for (int bad : new int[] {LOW, -1, 4, HIGH}) {
            c.due("item(" + bad + ")", x.item(bad, 0, 0, 0), -1);
        }
        for (int bad : new int[] {LOW, -1, 3, HIGH}) {
            c.due("item lane " + bad, x.item(0, bad, 0, 0), -1);
        }
        c.due("NULL", x.item(0, 0, -1, 0), -11);
        x.sheet(0, 1, 4);
        c.due("BAD, INDEX", x.item(0, 3, 9, 0), -1);
        c.due("CAST, INDEX", x.item(0, 2, 9, 0), -12);
        c.due("CAST", x.item(0, 0, 0, 0), -12);
        for (int bad : new int[] {LOW, -1, 4, 24, HIGH}) {
            c.due("INDEX " + bad, x.item(0, 1, bad, 0), -13);
        }
        x.sheet(0, 1, 0);
        c.due("of no item", x.item(0, 1, 0, 0), -13);
        int[] v = {65541, 65541, 65541};
        int[] waited = {5, 5, -2};
        for (int lane = 0; lane < 3; lane++) {
            // 65541 is 5 in its lowest 8 and 16 bits; the second group waits from 0 to when the first is over.
            put(x, 1, lane, 0, v[lane], 0, 6);
            c.due("lowest bits in LANE " + lane, x.slots(1, lane, 0, 2, -1), waited[lane]);
        }
        int[] edge = {128, 32768, 1 << 31};
        for (int lane = 0; lane < 3; lane++) {
            put(x, 1, lane, edge[lane], 1, 0, 1);
            c.due("a sign in LANE " + lane, x.slots(1, lane, 0, 2, -1), -2);
            put(x, 1, lane, edge[lane] - 1 & 127, 1, 0, 1);
            c.due("none in LANE " + lane, x.slots(1, lane, 0, 2, -1), 0);
        }
        put(x, 1, 1, 255, 1, 0, 1);
        c.due("255 as a short", x.slots(1, 1, 0, 2, 0), 1);
        put(x, 1, 0, 255, 1, 0, 1);
        c.due("255 as a byte", x.slots(1, 0, 0, 2, 0), -2);
        put(x, 1, 0, 256, 1, 0, 1);
        c.due("256 as a byte", x.slots(1, 0, 0, 2, 0), 0);
        x.sheet(1, 0, 4);
        c.due("a new row is of 0s", x.slots(1, 0, 0, 2, 0), -2);
        x.item(1, 0, 1, 1);
        x.item(1, 0, 3, 1);
        c.due("0s", x.slots(1, 0, 0, 2, -1), 1);
        put(x, 1, 2, 9, 9, 9, 9);
        x.sheet(1, 2, 4);
        x.item(1, 2, 1, 1);
        x.item(1, 2, 3, 5);
        c.due("0s, not what was there", x.slots(1, 2, 0, 2, -1), 1);
    }

    private static void copies(Check c) {
        FlagWalk x = new FlagWalk();
        for (int bad : new int[] {LOW, -1, 4, HIGH}) {
            c.due("from " + bad, x.copy(bad, 0, 0, 0, 0), -1);
            c.due("to " + bad, x.copy(0, 0, bad, 0, 0), -1);
        }
        c.due("NULL both", x.copy(0, 0, 1, 0, -1), -11);
        x.sheet(0, 1, 6);
        c.due("NULL to", x.copy(0, 0, 1, 0, -1), -11);
        c.due("NULL from", x.copy(1, 0, 0, 0, -1), -11);
        c.due("BAD, NULL", x.copy(1, 0, 4, 0, -1), -1);
        x.sheet(1, 2, 6);
        c.due("CAST, INDEX", x.copy(0, 0, 1, 0, -1), -12);
        c.due("CAST", x.copy(1, 0, 0, 0, 0), -12);
        x.sheet(1, 1, 4);
        int[][] index = {{0, 0, -1}, {0, 0, LOW}, {-1, 0, 0}, {0, -1, 0}, {7, 0, 0}, {0, 5, 0}, {0, 0, 5}, {0, 1, 4},
            {3, 0, 4}, {LOW, 0, 1}, {0, LOW, 1}, {HIGH, 0, 1}, {0, HIGH, 1}, {0, 0, HIGH}, {1, 1, HIGH}, {6, 4, 1},
            {HIGH, HIGH, HIGH}, {6, 4, -1}};
        for (int[] t : index) {
            c.due("INDEX " + t[0] + " " + t[1] + " " + t[2], x.copy(0, t[0], 1, t[1], t[2]), -13);
        }
        c.due("nothing at the ends", x.copy(0, 6, 1, 4, 0), 0);
        c.due("all that fit", x.copy(0, 2, 1, 0, 4), 4);
        c.due("to itself", x.copy(0, 0, 0, 0, 6), 6);
        for (int lane = 0; lane < 3; lane++) {
            x.sheet(0, lane, 3);
            x.sheet(1, lane, 3);
            c.due("of LANE " + lane, x.copy(0, 0, 1, 0, 3), 3);
            x.sheet(1, (lane + 1) % 3, 3);
            c.due("to another LANE than " + lane, x.copy(0, 0, 1, 0, 3), -12);
        }
    }

    /** The items of a SHEET of shorts, each told by what SLOTS say of it as a MINUTE: who goes first, who waits. */
    private static void like(Check c, String what, FlagWalk x, int sheet, int[] due) {
        x.sheet(3, 1, 4);
        x.item(3, 1, 1, 50);
        x.item(3, 1, 3, 99);
        for (int i = 0; i < due.length; i++) {
            x.copy(sheet, i, 3, 2, 1);
            // One from MINUTE 0 to 50, and one that comes at the item, below 50: who is first or waits 50 less it.
            c.due(what + " item " + i, x.slots(3, 1, 0, 2, -1), 50 - due[i]);
        }
    }

    private static void copiesByTrying(Check c) {
        for (int seed = 1; seed <= 120; seed++) {
            Check.Row row = new Check.Row(50000 + seed);
            FlagWalk x = new FlagWalk();
            int[][] own = {new int[row.between(0, 24)], new int[row.between(0, 24)]};
            for (int s = 0; s < 2; s++) {
                for (int i = 0; i < own[s].length; i++) {
                    own[s][i] = row.between(0, 40);
                }
                put(x, s, 1, own[s]);
            }
            for (int k = 0; k < 6; k++) {
                int from = row.between(0, 1);
                int to = row.between(0, 1);
                int i = row.between(-1, 25);
                int j = row.between(-1, 25);
                int n = row.between(-1, 20);
                boolean fits = i >= 0 && j >= 0 && n >= 0 && i + n <= own[from].length && j + n <= own[to].length;
                c.due("seed " + seed + " copy", x.copy(from, i, to, j, n), fits ? n : -13);
                if (fits) {
                    int[] taken = java.util.Arrays.copyOfRange(own[from], i, i + n);
                    System.arraycopy(taken, 0, own[to], j, n);
                }
            }
            like(c, "seed " + seed + " SHEET 0", x, 0, own[0]);
            like(c, "seed " + seed + " SHEET 1", x, 1, own[1]);
            c.due("size", x.drop(0), own[0].length);
        }
        FlagWalk x = new FlagWalk();
        put(x, 0, 1, 1, 2, 3, 4, 5);
        x.copy(0, 0, 0, 1, 4);
        like(c, "onward over itself", x, 0, new int[] {1, 1, 2, 3, 4});
        put(x, 0, 1, 1, 2, 3, 4, 5);
        x.copy(0, 1, 0, 0, 4);
        like(c, "back over itself", x, 0, new int[] {2, 3, 4, 5, 5});
    }

    private static void slotsRefused(Check c) {
        FlagWalk x = new FlagWalk();
        for (int bad : new int[] {LOW, -1, 4, HIGH}) {
            c.due("slots(" + bad + ")", x.slots(bad, 1, 0, 2, -1), -1);
        }
        for (int bad : new int[] {LOW, -1, 3, HIGH}) {
            c.due("slots lane " + bad, x.slots(0, bad, 0, 2, -1), -1);
        }
        for (int bad : new int[] {LOW, -1, 0, 1, 7, HIGH}) {
            c.due("slots n " + bad, x.slots(0, 1, 0, bad, -1), -1);
        }
        for (int bad : new int[] {LOW, -2, 2, HIGH}) {
            c.due("slots k " + bad, x.slots(0, 1, 0, 2, bad), -1);
        }
        c.due("NULL, INDEX", x.slots(0, 1, -1, 2, -1), -11);
        x.sheet(0, 1, 5);
        c.due("CAST, INDEX", x.slots(0, 0, -1, 2, -1), -12);
        for (int bad : new int[] {LOW, -1, 2, 5, 6, HIGH}) {
            c.due("INDEX " + bad, x.slots(0, 1, bad, 2, -1), -13);
        }
        c.due("INDEX ahead of NOT", x.slots(0, 1, 0, 3, -1), -13);
        c.due("BAD ahead of INDEX", x.slots(0, 1, 0, 3, 3), -1);
        int[][] groups = {{-1, 1}, {1000, 1}, {0, 0}, {0, 100}, {0, -1}};
        for (int[] g : groups) {
            put(x, 0, 1, g[0], g[1], 0, 1);
            c.due("NOT " + g[0] + " " + g[1], x.slots(0, 1, 0, 2, 0), -2);
            put(x, 0, 1, 0, 1, g[0], g[1]);
            c.due("NOT second " + g[0] + " " + g[1], x.slots(0, 1, 0, 2, 0), -2);
            put(x, 0, 1, 0, 1, 0, 1, g[0], g[1]);
            c.due("not among them " + g[0] + " " + g[1], x.slots(0, 1, 0, 2, -1), 1);
        }
        put(x, 0, 1, 999, 99, 0, 1);
        c.due("the last MINUTE", x.slots(0, 1, 0, 2, 0), 1);
        put(x, 0, 1, 7, 7, 3, 9, 3, 9, 3, 2);
        c.due("from item 2", x.slots(0, 1, 2, 2, -1), 9);
        c.due("of like ones the first", x.slots(0, 1, 2, 2, 0), 0);
        c.due("the shorter first", x.slots(0, 1, 4, 2, 0), 1);
        c.due("from item 1", x.slots(0, 1, 1, 2, -1), 1);
    }

    private static void slotsByTrying(Check c) {
        for (int seed = 1; seed <= 300; seed++) {
            Check.Row row = new Check.Row(30000 + seed);
            FlagWalk x = new FlagWalk();
            int n = row.between(2, 6);
            int from = row.between(0, 5);
            int lane = row.between(0, 2);
            int[] items = new int[from + 2 * n + row.between(0, 3)];
            int latest = row.once(3) ? 127 : row.between(5, 40);
            for (int i = 0; i < items.length; i++) {
                items[i] = i % 2 == from % 2 ? row.between(0, latest) : row.between(1, 20);
            }
            put(x, 1, lane, items);
            Second y = new Second();
            y.sheet(1, lane, items.length);
            for (int i = 0; i < items.length; i++) {
                y.item(1, lane, i, items[i]);
            }
            for (int k = -1; k < n; k++) {
                c.due("seed " + seed + " slots " + k, x.slots(1, lane, from, n, k), y.slots(1, lane, from, n, k));
            }
        }
    }
}
