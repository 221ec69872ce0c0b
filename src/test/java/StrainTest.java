/**
 * Calls of every kind with likely and wild numbers: none throws, the same calls give the same answers, and what is
 * refused changes nothing.
 */
public final class StrainTest {
    private static final String SIGNS = "slwtpoe:;, 0123456789";
    private static final String[] TEXTS = {"s3:2;l5:4", "w7:3;t8:2", "s9:4", "p1,l2e", "o3,t4", "p2e,p3", ";s1:1",
        ",o2"};
    private static final int CALLS = 29, TYPE = 7, WAY = 8, GROUP = 9;

    public static void main(String[] args) {
        Check c = new Check("StrainTest");
        for (int seed = 1; seed <= 400; seed++) {
            FlagWalk x = new FlagWalk();
            FlagWalk same = new FlagWalk();
            FlagWalk unrefused = new FlagWalk();
            Check.Row row = new Check.Row(seed);
            for (int round = 0; round < 240; round++) {
                String what = "seed " + seed + " round " + round;
                int which = row.once(3) ? row.between(0, WAY + 1) : row.between(0, CALLS - 1);
                long numbers = row.next();
                int got = call(x, which, new Check.Row(numbers));
                c.due(what + " again", call(same, which, new Check.Row(numbers)), got);
                if (got >= 0 || which == WAY || which == GROUP) {
                    call(unrefused, which, new Check.Row(numbers));
                }
                long asked = row.next();
                int answer = ask(x, new Check.Row(asked));
                c.due(what + " asked again", ask(same, new Check.Row(asked)), answer);
                c.due(what + " without the refused", ask(unrefused, new Check.Row(asked)), answer);
            }
        }
        c.finish();
    }

    private static int some(Check.Row r, int least, int most) {
        return r.once(25) ? r.wild() : r.between(least, most);
    }

    private static int call(FlagWalk x, int which, Check.Row r) {
        switch (which) {
            case 0:
                return x.end(some(r, 10, 60));
            case 1:
                return x.mark(some(r, 0, 3), some(r, 0, 45), some(r, 1, 12));
            case 2:
                return x.told(some(r, 0, 3), some(r, 0, 7), some(r, 0, 2));
            case 3:
                return x.value(some(r, 0, 7), some(r, 0, 99));
            case 4:
                return x.person(some(r, 0, 3), some(r, 1, 4), r.once(2));
            case 5:
                return x.of(some(r, 0, 9), some(r, 0, 2));
            case 6:
                return x.rule(some(r, 0, 4), some(r, 0, 9));
            case TYPE:
                return type(x, r);
            case WAY:
                return x.way();
            case GROUP:
                return x.group();
            case 10:
                return x.image();
            case 11:
                return x.restore();
            case 12:
                return x.square(some(r, 0, 143), some(r, 0, 2));
            case 13:
                return x.sheet(some(r, 0, 3), some(r, 0, 2), some(r, 0, 24));
            case 14:
                return x.drop(some(r, 0, 3));
            case 15:
                return x.item(some(r, 0, 3), some(r, 0, 2), some(r, 0, 23), some(r, 0, 99));
            case 16:
                return x.copy(some(r, 0, 3), some(r, 0, 12), some(r, 0, 3), some(r, 0, 12), some(r, 0, 12));
            default:
                return ask(x, r);
        }
    }

    private static int type(FlagWalk x, Check.Row r) {
        if (r.once(20)) {
            return x.type(r.next(), some(r, 1, 8));
        }
        String text = TEXTS[r.between(0, TEXTS.length - 1)];
        if (r.once(4)) {
            text = "" + SIGNS.charAt(r.between(0, SIGNS.length() - 1));
        }
        return x.type(Check.packed(text), Math.min(8, text.length()));
    }

    private static int ask(FlagWalk x, Check.Row r) {
        switch (r.between(0, 13)) {
            case 0:
                return x.count(some(r, 0, 5));
            case 1:
                return x.fate(some(r, 0, 9), some(r, 0, 3));
            case 2:
                return x.at(some(r, 0, 99), some(r, -2, 9));
            case 3:
                return x.all(some(r, 0, 5));
            case 4:
                return x.best(some(r, 0, 299), some(r, 0, 3));
            case 5:
                return x.worth(some(r, 0, 9));
            case 6:
                return x.chosen(some(r, 0, 99), some(r, 0, 1));
            case 7:
                return x.counted(some(r, 1, 8), some(r, 0, 9), some(r, 0, 30), some(r, 0, 99));
            case 8:
                return x.often(some(r, 0, 9), some(r, 0, 30), some(r, 0, 99));
            case 9:
                return x.stand(some(r, 0, 2));
            case 10:
                return x.colours(some(r, 1, 8), some(r, 0, 1000), some(r, -1, 4));
            case 11:
                return x.slots(some(r, 0, 3), some(r, 0, 2), some(r, 0, 9), some(r, 2, 6), some(r, -1, 4));
            case 12:
                return x.told(some(r, 0, 3), some(r, 0, 7), some(r, 0, 2));
            default:
                return x.of(some(r, 0, 9), some(r, 0, 2));
        }
    }
}
