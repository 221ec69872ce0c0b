/** Promises 21 to 25: each sentence that names an edge of THE SQUARE, of COLOURS, of an IMAGE has a test of its own. */
public final class EdgeSquareTest {
    private static final int LOW = Check.LOW, HIGH = Check.HIGH, BAD = Check.BAD, NONE = Check.NONE, NULL = Check.NULL;
    private static final int PILLAR = 1, LISTENER = 2;

    public static void main(String[] args) {
        Check c = new Check("EdgeSquareTest");
        square(c);
        standWhat(c);
        standReach(c);
        standPillars(c);
        standBetween(c);
        standBest(c);
        coloursBounds(c);
        coloursPairs(c);
        coloursFewest(c);
        image(c);
        restore(c);
        c.finish();
    }

    // ---- THE SQUARE

    private static void square(Check c) {
        c.sentence("21 square", "On a POINT (0 .. 143) of THE SQUARE");
        FlagWalk x = new FlagWalk();
        c.due("POINTS to stand on", x.stand(0), 144);
        c.due("POINT 0", x.square(0, PILLAR), 0);
        c.due("POINT 143", x.square(143, PILLAR), 0);
        for (int bad : new int[] {LOW, -1, 144, HIGH}) {
            c.due("square(" + bad + ", 0)", x.square(bad, 0), BAD);
        }

        c.sentence("21 square", "is a PILLAR (1), a LISTENER (2), nothing (0): what was. BAD.");
        x = new FlagWalk();
        int[] signs = {0, 0, 1, 1, 2, 2, 0, 2, 1, 0};
        for (int i = 1; i < signs.length; i++) {
            c.due("what was " + i, x.square(77, signs[i]), signs[i - 1]);
        }
        for (int bad : new int[] {LOW, -1, 3, HIGH}) {
            c.due("square(77, " + bad + ")", x.square(77, bad), BAD);
        }

        c.sentence("21 square", "What answers so changes nothing, but as told.");
        x.square(78, LISTENER);
        x.square(78, 3);
        x.square(78, -1);
        c.due("what was", x.square(78, 0), LISTENER);
        c.due("beside it", x.square(77, 0), 0);
    }

    private static void standWhat(Check c) {
        c.sentence("22 stand", "STAND POINTS: how many (0), the BEST one (1), how far the farthest is then (2). BAD;");
        FlagWalk x = new FlagWalk();
        for (int bad : new int[] {LOW, -1, 3, HIGH}) {
            c.due("stand(" + bad + ")", x.stand(bad), BAD);
        }
        int[] due = {144, 0, 0};
        for (int what = 0; what < 3; what++) {
            c.due("no LISTENER: stand(" + what + ")", x.stand(what), due[what]);
        }

        c.sentence("22 stand", "NONE: there are none (1, 2)");
        x = Check.led(1, 0, 0, 0, 5);
        x.square(0, LISTENER);
        x.square(143, LISTENER);
        c.due("two 11 off, REACH 5: how many", x.stand(0), 0);
        c.due("the BEST", x.stand(1), NONE);
        c.due("how far", x.stand(2), NONE);
        c.due("BAD ahead of NONE", x.stand(3), BAD);
        x.rule(4, 6);
        c.due("REACH 6: how many", x.stand(0), 4);
        c.due("the BEST", x.stand(1), 65);
        c.due("how far", x.stand(2), 6);
        for (int i = 0; i < 144; i++) {
            x.square(i, PILLAR);
        }
        c.due("PILLARS on all: how many", x.stand(0), 0);
        c.due("the BEST", x.stand(1), NONE);
        c.due("how far", x.stand(2), NONE);
        x.square(143, 0);
        c.due("all but the last: how many", x.stand(0), 1);
        c.due("the BEST", x.stand(1), 143);
        c.due("how far", x.stand(2), 0);
    }

    private static void standReach(Check c) {
        c.sentence("22 stand", "if each LISTENER is no more than REACH away (by x or by y, the greater)");
        int[] reach = {1, 2, 3, 10, 11, 12, 20};
        int[] many = {4, 9, 16, 121, 144, 144, 144};
        for (int i = 0; i < reach.length; i++) {
            for (int corner : new int[] {0, 11, 132, 143}) {
                FlagWalk x = Check.led(1, 0, 0, 0, reach[i]);
                x.square(corner, LISTENER);
                c.due("REACH " + reach[i] + " from " + corner, x.stand(0), many[i]);
                c.due("the BEST is on it", x.stand(1), corner);
                c.due("none off", x.stand(2), 0);
            }
        }
        FlagWalk y = Check.led(1, 0, 0, 0, 1);
        y.square(78, LISTENER);
        c.due("REACH 1 from the middle", y.stand(0), 9);

        c.sentence("22 stand", "each LISTENER");
        y = Check.led(1, 0, 0, 0, 3);
        y.square(0, LISTENER);
        y.square(6, LISTENER);
        c.due("two 6 off in a row: where x is 3, y 0 .. 3", y.stand(0), 4);
        c.due("the first", y.stand(1), 3);
        y.square(72, LISTENER);
        c.due("a third, 6 off in a column: (3, 3) alone", y.stand(0), 1);
        c.due("it", y.stand(1), 39);
        c.due("how far", y.stand(2), 3);
        y.square(84, LISTENER);
        c.due("a fourth, 7 off", y.stand(0), 0);
    }

    private static void standPillars(Check c) {
        c.sentence("22 stand", "STANDING on a POINT without a PILLAR all hear");
        FlagWalk x = new FlagWalk();
        x.square(0, PILLAR);
        c.due("one PILLAR", x.stand(0), 143);
        c.due("the first without", x.stand(1), 1);
        x.square(0, 0);
        c.due("gone", x.stand(0), 144);
        c.due("the first", x.stand(1), 0);
        x.square(0, LISTENER);
        x.rule(4, 1);
        c.due("on the LISTENER's POINT", x.stand(1), 0);
        x.square(0, PILLAR);
        c.due("what was a LISTENER is none any more", x.stand(0), 143);
    }

    /** One LISTENER at (5, 5), REACH over all: how many POINTS a PILLAR takes. */
    private static void hides(Check c, String what, int pillar, int hidden) {
        FlagWalk x = Check.led(1, 0, 0, 0, 11);
        x.square(65, LISTENER);
        x.square(pillar, PILLAR);
        c.due(what, x.stand(0), 144 - 1 - hidden);
    }

    private static void standBetween(Check c) {
        c.sentence("22 stand", "no PILLAR is in its row, its column, its slant between");
        hides(c, "row, beside the LISTENER", 66, 5);
        hides(c, "row, back", 64, 4);
        hides(c, "row, one POINT from the side", 70, 1);
        hides(c, "row, at the side", 71, 0);
        hides(c, "row, at the other side", 60, 0);
        hides(c, "column, beside the LISTENER", 77, 5);
        hides(c, "column, back", 53, 4);
        hides(c, "column, one POINT from the side", 125, 1);
        hides(c, "column, at the side", 137, 0);
        hides(c, "slant, beside the LISTENER", 78, 5);
        hides(c, "slant, back", 52, 4);
        hides(c, "slant, one POINT from the side", 130, 1);
        hides(c, "slant, at the side", 143, 0);
        hides(c, "the other slant, beside the LISTENER", 54, 4);
        hides(c, "the other slant, back", 76, 4);
        hides(c, "the other slant, at the side", 10, 0);
        for (int pillar : new int[] {40, 42, 51, 55, 75, 79, 88, 90}) {
            hides(c, "in neither: " + pillar, pillar, 0);
        }

        int[] side = {5, 137, 60, 71};
        int[] inner = {17, 125, 61, 70};
        for (int i = 0; i < 4; i++) {
            FlagWalk y = Check.led(1, 0, 0, 0, 11);
            y.square(side[i], LISTENER);
            y.square(inner[i], PILLAR);
            c.due("a LISTENER at the side " + side[i], y.stand(0), 144 - 1 - 10);
        }

        c.sentence("22 stand", "A SQUARE is 12 by 12");
        // (0, 5) is behind (11, 4) by its number, not by its row; so are (11, 5) and (0, 6).
        FlagWalk x = Check.led(1, 0, 0, 0, 11);
        x.square(60, LISTENER);
        x.square(59, PILLAR);
        c.due("a row does not go on with the one ahead", x.stand(0), 143);
        x = Check.led(1, 0, 0, 0, 11);
        x.square(71, LISTENER);
        x.square(72, PILLAR);
        c.due("a row does not go on with the next", x.stand(0), 143);
        x = Check.led(1, 0, 0, 0, 1);
        x.square(60, LISTENER);
        c.due("beside the side, REACH 1", x.stand(0), 6);
        c.due("on it", x.stand(1), 60);

        c.sentence("22 stand", "no PILLAR is in its row, its column, its slant between");
        x = Check.led(1, 0, 0, 0, 11);
        x.square(60, LISTENER);
        x.square(71, LISTENER);
        x.square(65, PILLAR);
        // In the row each POINT but the PILLAR's is hidden from one of both.
        c.due("a PILLAR between two", x.stand(0), 144 - 12);
    }

    private static void standBest(Check c) {
        c.sentence("22 stand", "the BEST one: the greatest such distance is least, of like ones the first");
        FlagWalk x = Check.led(1, 0, 0, 0, 20);
        x.square(0, LISTENER);
        x.square(3, LISTENER);
        c.due("2 off: the first of some", x.stand(1), 1);
        c.due("how far", x.stand(2), 2);
        x.square(1, PILLAR);
        c.due("behind a PILLAR: the next, (1, 1)", x.stand(1), 13);
        x.square(143, LISTENER);
        c.due("a third far off", x.stand(2), 6);
        // Of (5 .. 6, 5 .. 6) the first; (5, 5) is 6 off from (11, 11), 5 from (0, 0).
        c.due("the first in the middle", x.stand(1), 65);
        x.square(65, PILLAR);
        c.due("it is in a slant of two", x.stand(2), 6);
        c.due("so the next, beside it", x.stand(1), 66);
    }

    // ---- COLOURS

    private static void coloursBounds(Check c) {
        c.sentence("23 colours", "COLOURS of n FLAGS (1 .. 8)");
        FlagWalk x = new FlagWalk();
        for (int bad : new int[] {LOW, -1, 0, 9, HIGH}) {
            c.due("colours(" + bad + ", 0, -1)", x.colours(bad, 0, -1), BAD);
        }
        c.due("1", x.colours(1, 0, -1), 1);
        c.due("8", x.colours(8, 0, -1), 1);

        c.sentence("23 colours", "how many (-1), that of FLAG i (0 .. n less 1). BAD:");
        for (int n = 1; n <= 8; n++) {
            c.due("the first of " + n, x.colours(n, 0, 0), 0);
            c.due("the last of " + n, x.colours(n, 0, n - 1), 0);
            for (int bad : new int[] {LOW, -2, n, 8, HIGH}) {
                c.due("colours(" + n + ", 0, " + bad + ")", x.colours(n, 0, bad), BAD);
            }
        }
    }

    private static void coloursPairs(Check c) {
        c.sentence("23 colours", "BAD: also bits that are not there.");
        FlagWalk x = new FlagWalk();
        for (int n = 1; n <= 8; n++) {
            int bits = n * (n - 1) / 2;
            c.due(n + ": all that are there", x.colours(n, (1 << bits) - 1, -1), n);
            for (int bit = bits; bit < 32; bit += bit < 29 ? 3 : 1) {
                c.due(n + ": bit " + bit, x.colours(n, 1 << bit, -1), BAD);
                c.due(n + ": bit " + bit + " too", x.colours(n, (1 << bit) + (1 << bits) - 1, 0), BAD);
            }
            c.due(n + ": -1", x.colours(n, -1, -1), BAD);
        }

        c.sentence("23 colours", "of pairs (bits: of a below b, in a row by a, then b)");
        // Of 4: 0-1, 0-2, 0-3, 1-2, 1-3, 2-3.
        int[][] rows = {{0, 1, 0, 0}, {0, 0, 1, 0}, {0, 0, 0, 1}, {0, 0, 1, 0}, {0, 0, 0, 1}, {0, 0, 0, 1}};
        for (int bit = 0; bit < 6; bit++) {
            for (int i = 0; i < 4; i++) {
                c.due("bit " + bit + ", FLAG " + i, x.colours(4, 1 << bit, i), rows[bit][i]);
            }
        }
        int[] both = {0, 1, 0, 1};
        for (int i = 0; i < 4; i++) {
            c.due("0-1 and 0-3, FLAG " + i, x.colours(4, 1 + 4, i), both[i]);
        }
        c.due("the last of 28: 6-7", x.colours(8, 1 << 27, 7), 1);
        c.due("the first of 28: 0-1", x.colours(8, 1, 1), 1);
    }

    private static void row(Check c, String what, int n, int pairs, int fewest, int... due) {
        FlagWalk x = new FlagWalk();
        c.due(what + ", how many", x.colours(n, pairs, -1), fewest);
        for (int i = 0; i < n; i++) {
            c.due(what + ", FLAG " + i, x.colours(n, pairs, i), due[i]);
        }
    }

    private static void coloursFewest(Check c) {
        c.sentence("23 colours", "the fewest, so that pairs are unlike; the first row of these");
        row(c, "one", 1, 0, 1, 0);
        row(c, "two, unlike", 2, 1, 2, 0, 1);
        row(c, "eight, no pair", 8, 0, 1, 0, 0, 0, 0, 0, 0, 0, 0);
        row(c, "eight, all pairs", 8, (1 << 28) - 1, 8, 0, 1, 2, 3, 4, 5, 6, 7);
        // 0-2, 1-3, 2-3: as 0 and 1 are alike, 3 needs a third.
        row(c, "two alike would need a third", 4, 2 + 16 + 32, 2, 0, 1, 1, 0);
        // 0-1, 0-4, 1-2, 2-3, 3-4: a ring of five.
        row(c, "a ring of five", 5, 1 + 8 + 16 + 128 + 512, 3, 0, 1, 0, 1, 2);
    }

    // ---- IMAGES

    private static void image(Check c) {
        c.sentence("24 image", "All but SHEETS, THE TAPE is kept as an IMAGE: 1.");
        FlagWalk x = new FlagWalk();
        c.due("of a new object", x.image(), 1);
        x.end(50);
        x.mark(0, 5, 5);
        x.value(0, 55);
        x.person(3, 4, true);
        for (int r = 0; r < 5; r++) {
            x.rule(r, 4);
        }
        x.square(143, LISTENER);
        c.due("again", x.image(), 1);
        changeAll(x);
        c.due("restore", x.restore(), 1);
        c.due("END", x.end(50), 50);
        c.due("STOPS", x.count(0), 1);
        c.due("LIGHTS", x.count(1), 0);
        c.due("PLACE", x.told(0, 0, 0), 5);
        c.due("LENGTH", x.told(0, 0, 1), 5);
        c.due("VALUE", x.told(0, 0, 2), 55);
        c.due("PEOPLE", x.count(4), 1);
        c.due("KIND", x.of(0, 0), 3);
        c.due("PACE", x.of(0, 1), 4);
        c.due("EAR", x.of(0, 2), 1);
        for (int r = 0; r < 5; r++) {
            c.due("RULE " + r, x.rule(r, 4), 4);
        }
        c.due("a LISTENER", x.square(143, LISTENER), LISTENER);
        c.due("no PILLAR", x.square(0, 0), 0);
        c.due("a second TAIL", x.person(3, 1, false), Check.NOT);
    }

    private static void changeAll(FlagWalk x) {
        x.end(30);
        Check.way(x, "s6:6;l7:7");
        Check.group(x, "p1,p2");
        for (int r = 0; r < 5; r++) {
            x.rule(r, 1);
        }
        x.square(143, 0);
        x.square(0, PILLAR);
    }

    private static void restore(Check c) {
        c.sentence("25 restore", "NONE: there is none.");
        FlagWalk x = new FlagWalk();
        c.due("a new object", x.restore(), NONE);
        x.mark(0, 5, 5);
        c.due("behind a MARK", x.restore(), NONE);
        c.due("it stays", x.count(0), 1);

        c.sentence("25 restore", "All is as it was then: 1.");
        c.due("image", x.image(), 1);
        c.due("at once", x.restore(), 1);
        c.due("nothing is changed", x.count(0), 1);
        changeAll(x);
        c.due("another END", x.all(2), 35);
        c.due("restore", x.restore(), 1);
        // At 5 behind 2, where she speaks 5 MINUTES; 35 by 2, cut up, more.
        c.due("END", x.all(2), 25);
        changeAll(x);
        c.due("the IMAGE is there still", x.restore(), 1);
        c.due("a STOP", x.told(0, 0, 0), 5);
        x.mark(0, 7, 7);
        c.due("a new IMAGE", x.image(), 1);
        changeAll(x);
        c.due("restore", x.restore(), 1);
        c.due("of the last IMAGE", x.told(0, 1, 0), 7);

        c.sentence("25 restore", "All but SHEETS, THE TAPE");
        x = new FlagWalk();
        x.sheet(0, 0, 5);
        Check.type(x, "s5:");
        x.image();
        x.drop(0);
        x.sheet(1, 2, 24);
        Check.type(x, "7");
        c.due("restore", x.restore(), 1);
        c.due("a SHEET that holds nothing", x.drop(0), NULL);
        c.due("a SHEET", x.drop(1), 24);
        c.due("THE TAPE", x.way(), 1);
        c.due("LENGTH", x.told(0, 0, 1), 7);
    }
}
