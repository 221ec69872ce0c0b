/** The examples of README.md: if an answer here changes, that page must, too. */
public final class ReadmeTest {
    public static void main(String[] args) {
        Check c = new Check("ReadmeTest");
        tour(c);
        texts(c);
        c.finish();
    }

    private static void tour(Check c) {
        FlagWalk x = new FlagWalk();
        x.mark(0, 6, 4);
        x.mark(1, 12, 6);
        x.mark(2, 20, 5);
        x.mark(3, 25, 4);
        x.mark(0, 32, 3);
        x.person(0, 2, false);
        x.person(1, 2, false);
        x.person(2, 3, true);
        c.due("she is at the END", x.all(2), 31);
        int[] heard = {7, 4, 4};
        int[] lostAt = {Check.NONE, 25, 25};
        for (int i = 0; i < 3; i++) {
            c.due("HEARD " + i, x.fate(i, 0), heard[i]);
            c.due("LOST at " + i, x.fate(i, 3), lostAt[i]);
        }
        c.due("where 1 is", x.at(20, 1), 24);
        c.due("THE TAIL", x.person(3, 2, false), 3);
        c.due("all are THERE", x.all(3), 35);
        c.due("THE TAIL is worth", x.worth(3), 6);
        int[] best = {3, 2, 0, 5};
        for (int what = 0; what < 4; what++) {
            c.due("best(28, " + what + ")", x.best(28, what), best[what]);
        }
    }

    private static void put(FlagWalk x, String text) {
        for (int i = 0; i < text.length(); i++) {
            x.type(text.charAt(i), 1);
        }
    }

    private static void texts(Check c) {
        FlagWalk x = new FlagWalk();
        put(x, "s6:4;l12:6");
        c.due("two marks", x.way(), 2);
        put(x, "s6:4;l12");
        c.due("something is missing", x.way(), -28);
        c.due("the way stays", x.told(1, 0, 1), 6);
        put(x, "s6:4;l12:6;t25:4");
        c.due("three marks", x.way(), 3);
        put(x, "p2,l2,o3e,t2");
        c.due("four people", x.group(), 4);
    }
}
