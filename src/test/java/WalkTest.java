/** Promises 13 to 15: what goes on, MINUTE by MINUTE: some ways by hand, many against the second program. */
public final class WalkTest {
    private static final int LOW = Check.LOW, HIGH = Check.HIGH;

    public static void main(String[] args) {
        Check c = new Check("WalkTest");
        refused(c);
        nobody(c);
        stops(c);
        lights(c);
        windows(c);
        oldOnes(c);
        turns(c);
        tails(c);
        ears(c);
        stuck(c);
        likeThePlainProgram(c);
        changesAreSeen(c);
        c.finish();
    }

    private static void refused(Check c) {
        FlagWalk x = Check.led(2, 5, 0, 10, 3);
        for (int bad : new int[] {LOW, -1, 0, 10, HIGH}) {
            c.due("fate of nobody " + bad, x.fate(bad, 0), -1);
        }
        c.due("at of nobody", x.at(0, 0), -1);
        x.person(0, 1, false);
        for (int bad : new int[] {LOW, -1, 1, HIGH}) {
            c.due("fate(" + bad + ")", x.fate(bad, 0), -1);
        }
        for (int bad : new int[] {LOW, -1, 4, HIGH}) {
            c.due("fate what " + bad, x.fate(0, bad), -1);
        }
        for (int bad : new int[] {LOW, -1, 300, HIGH}) {
            c.due("at(" + bad + ")", x.at(bad, 0), -1);
        }
        for (int bad : new int[] {LOW, -3, 1, 10, HIGH}) {
            c.due("at who " + bad, x.at(0, bad), -1);
        }
        for (int bad : new int[] {LOW, -1, 6, HIGH}) {
            c.due("all(" + bad + ")", x.all(bad), -1);
        }
    }

    private static void nobody(Check c) {
        c.due("a new object", new FlagWalk().all(2), 19);
        c.due("a new object", new FlagWalk().at(0, -1), 2);
        FlagWalk x = Check.led(4, 0, 0, 10, 3);
        x.end(10);
        c.places("nobody", x, -1, 4, 8, 10, 10);
        c.places("nobody", x, -2, -4, -4, -4, -4);
        c.due("all(0)", x.all(0), 0);
        c.due("all(1)", x.all(1), -4);
        c.due("all(2)", x.all(2), 2);
        c.due("all(3)", x.all(3), -4);
        c.due("all(4)", x.all(4), -4);
        c.due("all(5)", x.all(5), 0);
        x = Check.led(1, 10, 9, 10, 3);
        x.mark(0, 1, 2);
        // All of nobody are near: she begins at once, and has stood from when she came.
        c.places("nobody at a STOP", x, -1, 1, 1, 1, 1, 1, 1, 1, 1, 1, 2);
    }

    private static void stops(Check c) {
        FlagWalk x = Check.led(2, 0, 0, 10, 3);
        x.mark(0, 0, 2);
        x.person(0, 1, false);
        c.places("a STOP at 0", x, -1, 0, 0, 2, 4);
        c.places("behind her", x, 0, 0, 0, 1, 2);
        c.places("OUT", x, -2, 0, 0, 1, 2);
        c.due("HEARD", x.fate(0, 0), 2);
        c.due("RESTED", x.fate(0, 1), 2);

        x = Check.led(2, 0, 3, 10, 3);
        x.mark(0, 0, 2);
        x.person(0, 1, false);
        c.places("STAND 3", x, -1, 0, 0, 0, 2);
        x.rule(3, 0);
        c.places("STAND 3, no PATIENCE", x, -1, 0, 0, 2);
        x.rule(2, 9);
        x.rule(3, 2);
        c.places("STAND 9, PATIENCE 2", x, -1, 0, 0, 0, 0, 2);

        x = Check.led(4, 1, 0, 10, 1);
        x.mark(0, 4, 1);
        x.mark(0, 6, 1);
        x.person(0, 1, false);
        // She waits till one is NEAR, who is 3 PLACES off when she looks first; then 2, then 1.
        c.places("BEGIN 1", x, -1, 4, 4, 4, 4, 6);
        c.places("BEGIN 1", x, 0, 1, 2, 3, 4, 5);
        c.due("HEARD", x.fate(0, 0), 2);
        // She goes on from 6 in 6, and is at the END in 14, he at 15.
        c.due("most OUT", x.all(4), 40 - 15);
        x.rule(1, 0);
        c.places("BEGIN 0", x, -1, 4, 4, 6, 6, 10);
        c.due("HEARD none", x.all(0), 0);
        x.rule(1, 10);
        c.places("BEGIN 10, all are NEAR", x, -1, 4, 4, 4, 4, 6);
        x.rule(3, 1);
        c.places("PATIENCE 1", x, -1, 4, 4, 4, 6);
        x.rule(3, 0);
        c.places("PATIENCE 0", x, -1, 4, 4, 6, 6, 10);

        x = Check.led(1, 0, 2, 30, 1);
        x.mark(0, 2, 1);
        x.person(0, 1, false);
        x.person(2, 1, false);
        // An OLD one is at 1 behind 0 and 1, at 2 behind 2: all NEAR behind 1 and 2, she came behind 1.
        c.places("STOOD from when she came", x, -1, 1, 2, 2, 3);
        x = Check.led(4, 0, 2, 30, 1);
        x.mark(0, 4, 1);
        x.person(0, 1, false);
        // At 3 behind 2, at 4 behind 3: STOOD is 2 ahead of 4.
        c.places("STOOD from when all are NEAR", x, -1, 4, 4, 4, 4, 8);
        x = new FlagWalk();
        x.mark(0, 40, 3);
        x.person(0, 4, false);
        c.due("a STOP at the END is not met", x.all(2), 19);
        c.due("nothing HEARD", x.all(1), 0);
    }

    private static void lights(Check c) {
        FlagWalk x = Check.led(2, 0, 0, 10, 3);
        x.end(10);
        x.mark(1, 0, 5);
        x.person(0, 4, false);
        c.places("a LIGHT of 5", x, -1, 0, 0, 2, 4, 6, 8, 10);
        c.places("a LIGHT of 5", x, 0, 0, 0, 2, 4, 6, 8, 10);
        c.due("RESTED, but not at the END", x.fate(0, 1), 6);
        c.due("THERE", x.fate(0, 2), 6);
        x = Check.led(3, 0, 0, 10, 3);
        x.mark(1, 3, 4);
        x.person(0, 2, false);
        // Red in 0, 1, 4, 5: she leaves in 2; he comes in 1 and leaves in 2 too.
        c.places("a LIGHT of 4", x, -1, 3, 3, 6, 9, 12);
        c.places("a LIGHT of 4", x, 0, 2, 3, 5, 7, 9);
        x = Check.led(4, 0, 0, 10, 3);
        x.mark(1, 2, 2);
        x.mark(1, 3, 3);
        // Of 2: red in even ones; of 3: red in 0, 3, 6.
        c.places("two LIGHTS", x, -1, 2, 6, 10);
        x = Check.led(1, 0, 0, 10, 3);
        x.mark(0, 1, 1);
        x.mark(1, 1, 20);
        // DONE in 2, kept by the LIGHT to 9; in 10 she goes and the STOP keeps her no more.
        c.places("a LIGHT at a STOP", x, -1, 1, 1, 1, 1, 1, 1, 1, 1, 1, 1, 2, 3);
        x = Check.led(2, 0, 0, 10, 3);
        x.end(10);
        x.mark(1, 10, 2);
        c.due("a LIGHT at the END is not met", x.all(2), 4);
    }

    private static void windows(Check c) {
        FlagWalk x = Check.led(2, 0, 0, 10, 3);
        x.end(10);
        x.mark(2, 1, 2);
        x.mark(2, 0, 20);
        x.mark(2, 10, 5);
        x.person(1, 2, false);
        x.person(0, 2, false);
        x.person(2, 4, false);
        c.places("LOOKING", x, 0, 1, 1, 1, 3, 5, 7, 9, 10, 10);
        c.places("PLAIN", x, 1, 2, 4, 6, 8, 10);
        c.places("OLD", x, 2, 2, 2, 6, 6, 10);
        c.due("LOOKING THERE", x.fate(0, 2), 7);
        c.due("all THERE", x.all(3), 7);
        x = Check.led(4, 0, 0, 10, 3);
        x.mark(2, 1, 1);
        x.mark(2, 2, 3);
        x.person(1, 4, false);
        c.places("window behind window", x, 0, 1, 1, 2, 2, 2, 2, 6);
    }

    private static void oldOnes(Check c) {
        FlagWalk x = Check.led(2, 0, 0, 10, 3);
        x.person(2, 3, false);
        c.places("OLD", x, 0, 2, 2, 5, 5, 8, 8, 11);
        c.places("OUT", x, -2, 0, 2, 1, 3, 2, 4, 3);
        c.due("RESTED", x.fate(0, 1), 1);
    }

    private static void turns(Check c) {
        FlagWalk x = Check.led(4, 0, 0, 10, 3);
        x.mark(3, 0, 3);
        x.person(0, 1, false);
        c.places("LOST at 0", x, 0, 0, 0, 0);
        c.places("OUT of none", x, -2, -4, -4);
        c.due("LOST at", x.fate(0, 3), 0);
        c.due("THERE", x.fate(0, 2), -4);
        c.due("the set", x.all(5), 1);
        c.due("most OUT", x.all(4), -4);
        x = Check.led(4, 0, 0, 10, 3);
        x.mark(3, 0, 4);
        x.person(0, 1, false);
        c.due("not LOST", x.fate(0, 3), -4);
        x = Check.led(4, 0, 0, 10, 3);
        x.mark(3, 2, 1);
        x.person(0, 3, false);
        x.person(2, 4, false);
        x.person(0, 4, false);
        // In 0 the guide is at 4, 2 ahead of the TURN: all are LOST there.
        c.places("LOST on the way", x, 0, 2, 2, 2);
        c.due("the set", x.all(5), 7);
        c.due("LOST at", x.fate(2, 3), 2);
        x = Check.led(2, 0, 0, 10, 3);
        x.mark(3, 2, 1);
        x.mark(1, 2, 20);
        x.person(0, 3, false);
        // The red LIGHT keeps all till 9; then she is 2 ahead at once.
        c.due("behind the LIGHT", x.fate(0, 3), 2);
        c.places("at the LIGHT", x, -2, 0, 0, 0, 0, 0, 0, 0, 0, 0, 0, -4);
        c.due("most OUT", x.all(4), 0);
        x = Check.led(4, 0, 0, 0, 20);
        x.mark(3, 0, 3);
        x.mark(0, 4, 1);
        x.person(0, 1, true);
        c.due("who is LOST hears nothing", x.all(0), 0);
        x = Check.led(2, 10, 9, 20, 2);
        x.mark(3, 0, 1);
        x.mark(0, 4, 1);
        x.person(0, 1, false);
        x.person(0, 4, false);
        // Both are LOST in 0: she begins at once, and stands as if all were NEAR.
        c.places("all LOST", x, -1, 2, 4, 4, 4, 4, 4, 4, 4, 4, 4, 6);
        x = Check.led(2, 0, 0, 10, 3);
        x.end(10);
        x.mark(3, 10, 1);
        x.mark(3, 50, 1);
        x.person(0, 1, false);
        c.due("a TURN at the END is not met", x.all(3), 9);
    }

    private static void tails(Check c) {
        FlagWalk x = Check.led(4, 0, 0, 10, 3);
        x.mark(3, 0, 1);
        x.person(0, 1, false);
        x.person(3, 4, false);
        x.person(0, 2, false);
        c.places("the first", x, 0, 1, 2, 3);
        // By its turn the third has not gone in 0 yet; the first has.
        c.places("THE TAIL", x, 1, 0, 2, 3);
        c.due("nobody LOST", x.all(5), 0);
        x = Check.led(4, 0, 0, 10, 3);
        x.mark(3, 0, 1);
        x.person(3, 2, false);
        c.places("THE TAIL alone", x, 0, 2, 4, 6);
        x = Check.led(4, 0, 0, 10, 3);
        x.mark(3, 2, 1);
        x.person(3, 1, false);
        x.person(0, 2, false);
        c.places("THE TAIL first", x, 0, 0, 1, 2);
        c.due("not LOST with THE TAIL behind", x.fate(1, 3), -4);
        x = Check.led(2, 0, 0, 10, 3);
        x.mark(1, 4, 10);
        x.person(3, 4, false);
        x.person(0, 4, false);
        c.places("THE TAIL at a LIGHT", x, 0, 0, 2, 4, 4, 4, 4);
    }

    private static void ears(Check c) {
        FlagWalk x = Check.led(4, 0, 0, 10, 1);
        x.mark(0, 4, 4);
        x.person(0, 1, true);
        x.person(0, 1, false);
        // Behind 0 both are 3 off: as far as the box goes; one without hears from when it is 1 off.
        c.due("with the box", x.fate(0, 0), 4);
        c.due("without", x.fate(1, 0), 2);
        c.due("together", x.all(0), 6);
        c.due("LEAST OFF", x.all(1), 2);
        x = Check.led(4, 1, 0, 10, 1);
        x.mark(0, 4, 4);
        x.person(0, 1, true);
        c.places("the box does not make NEAR", x, -1, 4, 4, 4, 4, 4, 4, 4, 8);
        x = Check.led(4, 0, 0, 10, 1);
        x.mark(0, 5, 1);
        x.person(2, 1, true);
        // 0: she at 4; 1: at 5; 2: she speaks, the OLD one is at 1: 4 off.
        c.due("farther than the box", x.all(0), 0);
    }

    private static void stuck(Check c) {
        FlagWalk x = Check.led(2, 0, 0, 10, 3);
        x.mark(1, 7, 2);
        x.person(2, 1, false);
        c.due("an OLD one at a LIGHT of 2 goes never", x.at(299, 0), 7);
        c.due("THERE", x.all(3), -4);
        c.due("OUT", x.at(299, -2), 33);
        c.due("most OUT", x.all(4), 33);
        x = Check.led(1, 10, 0, 30, 1);
        x.end(99);
        for (int i = 0; i < 8; i++) {
            x.mark(0, 10 + i, 20);
        }
        x.mark(1, 0, 2);
        x.person(2, 1, false);
        // At each STOP she waits 30 MINUTES for one who never leaves 0, and speaks 20: 400 in all.
        c.due("not at the END by 299", x.all(2), -4);
        c.due("nobody is THERE", x.all(3), -4);
        c.due("neither is he", x.fate(0, 2), -4);
    }

    private static void compare(Check c, String what, FlagWalk x, Plain p, Check.Row row, int minutes) {
        c.due(what + " all(0)", x.all(0), p.heardTogether());
        c.due(what + " all(1)", x.all(1), p.leastHeard());
        c.due(what + " all(2)", x.all(2), p.guideThere);
        c.due(what + " all(3)", x.all(3), p.allThere());
        c.due(what + " all(4)", x.all(4), p.mostOut);
        c.due(what + " all(5)", x.all(5), p.lostSet());
        for (int i = 0; i < p.people.size(); i++) {
            c.due(what + " HEARD " + i, x.fate(i, 0), p.heard[i]);
            c.due(what + " RESTED " + i, x.fate(i, 1), p.rested[i]);
            c.due(what + " THERE " + i, x.fate(i, 2), p.there[i]);
            c.due(what + " LOST " + i, x.fate(i, 3), p.lostAt[i]);
        }
        for (int k = 0; k < minutes; k++) {
            int minute = k == 0 ? 299 : row.between(0, row.once(2) ? 299 : 60);
            c.due(what + " OUT " + minute, x.at(minute, -2), p.outBehind[minute]);
            c.due(what + " guide " + minute, x.at(minute, -1), p.guideBehind[minute]);
            for (int i = 0; i < p.people.size(); i++) {
                c.due(what + " at " + minute + " " + i, x.at(minute, i), p.placeBehind[minute][i]);
            }
        }
    }

    private static void likeThePlainProgram(Check c) {
        for (int seed = 1; seed <= 1500; seed++) {
            Check.Row row = new Check.Row(seed);
            Plain p = Plain.some(row);
            p.run();
            compare(c, "seed " + seed, p.made(), p, row, 30);
        }
    }

    /** One object, asked ahead of and behind each change. */
    private static void changesAreSeen(Check c) {
        for (int seed = 1; seed <= 600; seed++) {
            Check.Row row = new Check.Row(7000 + seed);
            Plain p = Plain.some(row);
            FlagWalk x = p.made();
            for (int step = 0; step < 4; step++) {
                p.run();
                compare(c, "seed " + seed + " step " + step, x, p, row, 4);
                change(x, p, row);
            }
        }
    }

    private static void change(FlagWalk x, Plain p, Check.Row row) {
        int which = row.between(0, 5);
        if (which == 0) {
            p.end = row.between(10, 60);
            x.end(p.end);
        } else if (which == 1) {
            int[] m = {row.between(0, 3), row.between(0, p.end - 1), row.between(2, 9)};
            if (x.mark(m[0], m[1], m[2]) >= 0) {
                p.marks.add(m);
            }
        } else if (which == 2) {
            int[] one = {row.between(0, 3), row.between(1, 4), row.between(0, 1)};
            if (x.person(one[0], one[1], one[2] == 1) >= 0) {
                p.people.add(one);
            }
        } else if (which == 3) {
            int r = row.between(0, 4);
            p.rules[r] = row.between(1, 4);
            x.rule(r, p.rules[r]);
        } else if (which == 4) {
            p.marks.clear();
            p.marks.add(new int[] {0, 8, 3});
            p.marks.add(new int[] {3, 9, row.between(1, 5)});
            Check.way(x, "s8:3;t9:" + p.marks.get(1)[2]);
        } else {
            p.people.clear();
            p.people.add(new int[] {1, 2, 1});
            p.people.add(new int[] {2, 3, 0});
            Check.group(x, "l2e,o3");
        }
    }
}
