/** What the tests share: due answers, texts onto THE TAPE, numbers that are the same in every run. */
final class Check {
    private final String name;
    private int calls = 0;
    private int wrong = 0;

    Check(String name) {
        this.name = name;
    }

    void due(String call, long got, long want) {
        calls++;
        if (got != want) {
            wrong++;
            if (wrong <= 40) {
                System.out.println(name + ": " + call + " answered " + got + ", due is " + want);
            }
        }
    }

    /** Ends the test: exit code 1, if an answer was not the one that is due. */
    void finish() {
        System.out.println(name + ": " + calls + " answers, " + wrong + " not as due");
        if (wrong != 0) {
            System.exit(1);
        }
    }

    /** Puts a text of signs 32 to 126 behind THE TAPE, by up to eight of them a call. */
    static void type(FlagWalk x, String text) {
        for (int from = 0; from < text.length(); from += 8) {
            int n = Math.min(8, text.length() - from);
            x.type(packed(text.substring(from, from + n)), n);
        }
    }

    static long packed(String text) {
        long w = 0;
        for (int i = 0; i < text.length(); i++) {
            w = w << 8 | text.charAt(i);
        }
        return w;
    }

    static int way(FlagWalk x, String text) {
        type(x, text);
        return x.way();
    }

    static int group(FlagWalk x, String text) {
        type(x, text);
        return x.group();
    }

    /** A row of numbers that is the same in every run. */
    static final class Row {
        private long state;

        Row(long seed) {
            state = seed * 0x9E3779B97F4A7C15L + 1;
        }

        long next() {
            state = state * 6364136223846793005L + 1442695040888963407L;
            long mixed = state ^ state >>> 29;
            mixed *= 0xBF58476D1CE4E5B9L;
            return mixed ^ mixed >>> 32;
        }

        int between(int least, int most) {
            return least + (int) Long.remainderUnsigned(next(), most - least + 1L);
        }

        boolean once(int in) {
            return between(1, in) == 1;
        }
    }
}
