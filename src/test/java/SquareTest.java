/** Promises 21 to 25: THE SQUARE, STAND POINTS, COLOURS, IMAGES. */
public final class SquareTest {
    private static final int LOW = Check.LOW, HIGH = Check.HIGH;

    public static void main(String[] args) {
        Check c = new Check("SquareTest");
        points(c);
        stand(c);
        standByLooking(c);
        coloursByHand(c);
        coloursByTrying(c);
        images(c);
        imageKeepsAll(c);
        c.finish();
    }

    private static void points(Check c) {
        FlagWalk x = new FlagWalk();
        for (int bad : new int[] {LOW, -1, 144, HIGH}) {
            c.due("square(" + bad + ")", x.square(bad, 0), -1);
        }
        for (int bad : new int[] {LOW, -1, 3, HIGH}) {
            c.due("square v " + bad, x.square(0, bad), -1);
        }
        for (int point = 0; point < 144; point++) {
            c.due("nothing", x.square(point, point % 3), 0);
        }
        for (int point = 0; point < 144; point++) {
            c.due("what was", x.square(point, 1), point % 3);
        }
        c.due("PILLARS alone", x.stand(0), 0);
        c.due("the BEST", x.stand(1), -4);
        c.due("how far", x.stand(2), -4);
        for (int bad : new int[] {LOW, -1, 3, HIGH}) {
            c.due("stand(" + bad + ")", x.stand(bad), -1);
        }
    }

    private static void stand(Check c) {
        FlagWalk x = new FlagWalk();
        x.square(143, 1);
        c.due("no LISTENER", x.stand(0), 143);
        c.due("no LISTENER", x.stand(1), 0);
        c.due("no LISTENER", x.stand(2), 0);
        x.square(0, 1);
        c.due("the first", x.stand(1), 1);
        x.square(0, 2);
        c.due("one: on it and 3 off", x.stand(0), 16);
        c.due("on it", x.stand(1), 0);
        c.due("none off", x.stand(2), 0);
        x.rule(4, 20);
        c.due("all but the PILLAR", x.stand(0), 143);
        x.square(1, 1);
        // A PILLAR at 1 hides 0 from 2 to 11; the one at 143 hides nothing.
        c.due("a row", x.stand(0), 143 - 11);
        x.square(13, 1);
        // The last of the slant, 143, is the PILLAR.
        c.due("a slant", x.stand(0), 143 - 11 - 10);
        x.square(12, 1);
        c.due("a column", x.stand(0), 143 - 11 - 10 - 11);
        x.square(24, 2);
        c.due("PILLARS between two", x.stand(1), 14);
        c.due("how far", x.stand(2), 2);
        FlagWalk y = new FlagWalk();
        y.rule(4, 11);
        y.square(65, 2);
        y.square(54, 1);
        // The other slant: 65 is (5, 5), 54 is (6, 4): hidden from (7, 3), (8, 2), (9, 1), (10, 0).
        c.due("the other slant", y.stand(0), 144 - 1 - 4);
    }

    private static void standByLooking(Check c) {
        for (int seed = 1; seed <= 400; seed++) {
            Check.Row row = new Check.Row(80000 + seed);
            FlagWalk x = new FlagWalk();
            Second y = new Second();
            int reach = row.between(1, row.once(2) ? 20 : 6);
            x.rule(4, reach);
            y.rule(4, reach);
            int low = row.between(0, 7);
            int high = row.between(low, 11);
            int set = row.between(0, 25);
            for (int i = 0; i < set; i++) {
                int point = row.once(2) ? row.between(0, 143) : 12 * row.between(low, high) + row.between(low, high);
                int sign = row.between(0, 2);
                x.square(point, sign);
                y.square(point, sign);
            }
            for (int what = 0; what < 3; what++) {
                c.due("seed " + seed + " stand(" + what + ")", x.stand(what), y.stand(what));
            }
        }
    }

    private static void coloursByHand(Check c) {
        FlagWalk x = new FlagWalk();
        for (int bad : new int[] {LOW, -1, 0, 9, HIGH}) {
            c.due("colours(" + bad + ")", x.colours(bad, 0, -1), -1);
        }
        for (int n = 1; n <= 8; n++) {
            int bits = n * (n - 1) / 2;
            c.due("bits that are not there", x.colours(n, 1 << bits, -1), -1);
            c.due("below 0", x.colours(n, -1, -1), -1);
            c.due("LOW", x.colours(n, LOW, -1), -1);
            c.due("FLAG n", x.colours(n, 0, n), -1);
            c.due("FLAG -2", x.colours(n, 0, -2), -1);
            c.due("all meet", x.colours(n, (1 << bits) - 1, -1), n);
            c.due("none meet", x.colours(n, 0, -1), 1);
            c.due("the last of all", x.colours(n, (1 << bits) - 1, n - 1), n - 1);
            c.due("the last of none", x.colours(n, 0, n - 1), 0);
        }
        // Of 4: 0-1, 0-2, 0-3, 1-2, 1-3, 2-3. 0-3 and 1-2: the first row is 0 0 1 1.
        int[] row = {0, 0, 1, 1};
        for (int i = 0; i < 4; i++) {
            c.due("0-3, 1-2", x.colours(4, 4 + 8, i), row[i]);
        }
    }

    private static void coloursByTrying(Check c) {
        for (int seed = 1; seed <= 400; seed++) {
            FlagWalk x = new FlagWalk();
            Second y = new Second();
            Check.Row row = new Check.Row(90000 + seed);
            int n = row.between(1, row.once(8) ? 8 : 6);
            int pairs = row.between(0, (1 << n * (n - 1) / 2) - 1);
            for (int i = -1; i < n; i++) {
                c.due("seed " + seed + " FLAG " + i, x.colours(n, pairs, i), y.colours(n, pairs, i));
            }
        }
    }

    private static void images(Check c) {
        FlagWalk x = new FlagWalk();
        c.due("none", x.restore(), -4);
        x.sheet(0, 1, 3);
        Check.type(x, "p1");
        c.due("image", x.image(), 1);
        x.sheet(1, 0, 5);
        x.drop(0);
        Check.type(x, ",l2e");
        x.person(0, 1, false);
        c.due("restore", x.restore(), 1);
        c.due("nobody", x.count(4), 0);
        c.due("SHEET 0 stays away", x.drop(0), -11);
        c.due("SHEET 1 stays", x.drop(1), 5);
        c.due("THE TAPE stays", x.group(), 2);
        c.due("an image stays", x.restore(), 1);
        c.due("nobody", x.count(4), 0);
        x.person(1, 2, true);
        c.due("a new image", x.image(), 1);
        x.person(1, 2, true);
        c.due("restore", x.restore(), 1);
        c.due("one", x.count(4), 1);
        x.person(1, 3, true);
        c.due("restore", x.restore(), 1);
        c.due("one", x.count(4), 1);
        Check.type(x, "s1:1;");
        c.due("restore", x.restore(), 1);
        c.due("THE TAPE is not emptied", x.way(), -25);
    }

    private static void tellAll(Check c, String what, FlagWalk x, FlagWalk y) {
        for (int kind = 0; kind < 4; kind++) {
            c.due(what + " count " + kind, x.count(kind), y.count(kind));
            for (int i = 0; i < y.count(kind); i++) {
                for (int k = 0; k < 3; k++) {
                    c.due(what + " told", x.told(kind, i, k), y.told(kind, i, k));
                }
            }
        }
        c.due(what + " people", x.count(4), y.count(4));
        for (int i = 0; i < y.count(4); i++) {
            for (int k = 0; k < 3; k++) {
                c.due(what + " of", x.of(i, k), y.of(i, k));
            }
        }
        for (int k = 0; k < 6; k++) {
            c.due(what + " all " + k, x.all(k), y.all(k));
        }
        for (int k = 0; k < 4; k++) {
            c.due(what + " best " + k, x.best(80, k), y.best(80, k));
        }
        for (int k = 0; k < 3; k++) {
            c.due(what + " stand " + k, x.stand(k), y.stand(k));
        }
    }

    private static void fill(FlagWalk x, Check.Row row) {
        Check.way(x, "s" + row.between(0, 9) + ":" + row.between(1, 9) + ";l12:6;w" + row.between(13, 17) + ":4;t19:5");
        Check.group(x, "p" + row.between(1, 4) + ",l2e,o" + row.between(1, 4) + "," + (row.once(2) ? "t2" : "p3"));
        x.value(0, row.between(0, 99));
        x.end(row.between(10, 50));
        x.rule(0, row.between(1, 4));
        x.rule(1, row.between(0, 10));
        x.rule(2, row.between(0, 9));
        x.rule(3, row.between(0, 30));
        x.rule(4, row.between(1, 20));
        for (int i = 0; i < 144; i++) {
            x.square(i, row.once(9) ? row.between(0, 2) : 0);
        }
    }

    private static void imageKeepsAll(Check c) {
        for (int seed = 1; seed <= 60; seed++) {
            FlagWalk x = new FlagWalk();
            FlagWalk y = new FlagWalk();
            fill(x, new Check.Row(seed));
            fill(y, new Check.Row(seed));
            x.all(0);
            x.best(80, 0);
            x.image();
            fill(x, new Check.Row(1000 + seed));
            FlagWalk z = new FlagWalk();
            fill(z, new Check.Row(1000 + seed));
            tellAll(c, "seed " + seed + " filled anew", x, z);
            x.restore();
            tellAll(c, "seed " + seed, x, y);
            for (int r = 0; r < 5; r++) {
                int v = x.rule(r, 1);
                c.due("rule " + r, v, y.rule(r, 1));
            }
            c.due("end", x.end(40), y.end(40));
            // Of all POINTS a third: more calls than 512 would not be promised.
            for (int i = seed % 3; i < 144; i += 3) {
                c.due("square " + i, x.square(i, 0), y.square(i, 0));
            }
        }
    }
}
