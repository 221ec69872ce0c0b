/** What the tests share: due answers, a led way, texts onto THE TAPE, numbers that are the same in every run. */
final class Check {
    static final int LOW = Integer.MIN_VALUE, HIGH = Integer.MAX_VALUE;
    static final int BAD = -1, NOT = -2, FULL = -3, NONE = -4, NULL = -11, CAST = -12, INDEX = -13, SIZE = -14;

    private final String name;
    private int calls = 0;
    private int wrong = 0;
    private int sentences = 0;
    private String sentence = "";
    private int callsAhead = 0;

    Check(String name) {
        this.name = name;
    }

    /** From here on, till the next, the answers hold this sentence of the document. */
    void sentence(String promise, String words) {
        endSentence();
        sentences++;
        sentence = "[" + promise + ": \"" + words + "\"] ";
        callsAhead = calls;
    }

    /** A sentence that no answer holds is not tested. */
    private void endSentence() {
        if (sentences > 0 && calls == callsAhead) {
            due("a test of the sentence", 0, 1);
        }
    }

    void due(String call, long got, long want) {
        calls++;
        if (got != want) {
            wrong++;
            if (wrong <= 40) {
                System.out.println(name + ": " + sentence + call + " answered " + got + ", due is " + want);
            }
        }
    }

    /** Ends the test: exit code 1, if an answer was not the one that is due. */
    void finish() {
        endSentence();
        String held = sentences > 0 ? sentences + " sentences, " : "";
        System.out.println(name + ": " + held + calls + " answers, " + wrong + " not as due");
        if (wrong != 0) {
            System.exit(1);
        }
    }

    /** An object with all RULES told. */
    static FlagWalk led(int pace, int begin, int stand, int patience, int reach) {
        FlagWalk x = new FlagWalk();
        x.rule(0, pace);
        x.rule(1, begin);
        x.rule(2, stand);
        x.rule(3, patience);
        x.rule(4, reach);
        return x;
    }

    /** The PLACES of one behind the first MINUTES. */
    void places(String what, FlagWalk x, int who, int... due) {
        for (int minute = 0; minute < due.length; minute++) {
            due(what + ": at(" + minute + ", " + who + ")", x.at(minute, who), due[minute]);
        }
    }

    /** She is at a PLACE up to a MINUTE, and farther behind it. */
    void leaves(String what, FlagWalk x, int place, int minute) {
        due(what + ": at(" + (minute - 1) + ", -1)", x.at(minute - 1, -1), place);
        due(what + ": farther behind " + minute, x.at(minute, -1) > place ? 1 : 0, 1);
    }

    /** Puts a text of signs 32 to 126 behind THE TAPE, by up to eight of them a call. */
    static void type(FlagWalk x, String text) {
        for (int from = 0; from < text.length(); from += 8) {
            int n = Math.min(8, text.length() - from);
            x.type(packed(text.substring(from, from + n)), n);
        }
    }

    static long packed(String text) {
        long w = 0;
        for (int i = 0; i < text.length(); i++) {
            w = w << 8 | text.charAt(i);
        }
        return w;
    }

    static int way(FlagWalk x, String text) {
        type(x, text);
        return x.way();
    }

    static int group(FlagWalk x, String text) {
        type(x, text);
        return x.group();
    }

    /** A row of numbers that is the same in every run. */
    static final class Row {
        private static final int[] WILD = {LOW, -100001, -3, -2, -1, 0, 1, 24, 25, 99, 100, 143, 144, 299, 300, 999,
            1000, HIGH};

        private long state;

        Row(long seed) {
            state = seed * 0x9E3779B97F4A7C15L + 1;
        }

        long next() {
            state = state * 6364136223846793005L + 1442695040888963407L;
            long mixed = state ^ state >>> 29;
            mixed *= 0xBF58476D1CE4E5B9L;
            return mixed ^ mixed >>> 32;
        }

        int between(int least, int most) {
            return least + (int) Long.remainderUnsigned(next(), most - least + 1L);
        }

        boolean once(int in) {
            return between(1, in) == 1;
        }

        /** A number at one of the edges, or far off. */
        int wild() {
            return WILD[between(0, WILD.length - 1)];
        }
    }
}
