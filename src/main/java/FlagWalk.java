/** A guide with a flag, who leads people along a way. The document (../shared/DOC.md) says what each call answers. */
public final class FlagWalk {
    public static final int BAD = -1, NOT = -2, FULL = -3, NONE = -4, NULL = -11, CAST = -12, INDEX = -13, SIZE = -14;

    private static final int STOP = 0, LIGHT = 1, WINDOW = 2, TURN = 3;
    private static final int PLAIN = 0, LOOKING = 1, OLD = 2, TAIL = 3;
    private static final int PACE = 0, BEGIN = 1, STAND = 2, PATIENCE = 3, REACH = 4;
    private static final int PILLAR = 1, LISTENER = 2;

    private static final int PLACES = 100, MARKS = 8, PEOPLE = 10, MINUTES = 300, SHEETS = 4, ITEMS = 24;
    private static final int SIDE = 12, POINTS = 144, FLAGS = 8, GROUPS = 6, TAPE_BYTES = 80;
    private static final int MOST_BEGIN = 10, MOST_STAND_TRIED = 4, FIRST_END = 40, FIRST_VALUE = 10;
    private static final int FAULT = -20, FAR_BELOW = -100000, MORE_THAN_ALL_WAIT = 100000;
    // A row of the trail: OUT, the guide, then the people: in the order of what at() is asked for, from -2 on.
    private static final int TRAIL_ROW = 12;

    private static final int[] SHORTEST = {1, 2, 1, 1};
    private static final int[] LONGEST = {20, 20, 20, 50};
    private static final int[] FIRST_RULES = {2, 5, 0, 10, 3};
    private static final int[] LEAST_RULES = {1, 0, 0, 0, 1};
    private static final int[] MOST_RULES = {4, 10, 9, 30, 20};

    private final Plan plan = new Plan();
    private final Plan kept = new Plan();
    private boolean hasImage = false;
    private final Tape tape = new Tape();
    private final Marks draftMarks = new Marks();
    private final People draftPeople = new People();

    private final Walk walk = new Walk();
    private final Walk trial = new Walk();
    private boolean walked = false;
    private final int[] trail = new int[MINUTES * TRAIL_ROW];
    private int trailRows = 0;
    // PACE, BEGIN, STAND, the LEAST OFF (below 0: no rule is in time), for the minute below (below 0: not sought yet).
    private final int[] bestFound = new int[4];
    private int bestMinute = -1;

    private final Flags flags = new Flags();
    private final Bridge bridge = new Bridge();
    private final Sheet[] sheets = new Sheet[SHEETS];

    public FlagWalk() {
        for (int i = 0; i < SHEETS; i++) {
            sheets[i] = new Sheet();
        }
    }

    // ---- 1 the way, people

    public int end(int v) {
        if (!within(v, 10, 99)) {
            return BAD;
        }
        int was = plan.end;
        plan.end = v;
        forget();
        return was;
    }

    public int mark(int kind, int place, int length) {
        if (!within(kind, STOP, TURN) || !within(place, 0, PLACES - 1)
                || !within(length, SHORTEST[kind], LONGEST[kind])) {
            return BAD;
        }
        int number = plan.marks.add(kind, place, length);
        if (number >= 0) {
            forget();
        }
        return number;
    }

    public int told(int kind, int mark, int what) {
        if (!within(kind, STOP, TURN) || !within(mark, 0, plan.marks.sizes[kind] - 1)) {
            return BAD;
        }
        switch (what) {
            case 0:
                return plan.marks.places[kind][mark];
            case 1:
                return plan.marks.lengths[kind][mark];
            case 2:
                return kind == STOP ? plan.marks.values[mark] : BAD;
            default:
                return BAD;
        }
    }

    public int value(int stop, int v) {
        if (!within(stop, 0, plan.marks.sizes[STOP] - 1) || !within(v, 0, 99)) {
            return BAD;
        }
        int was = plan.marks.values[stop];
        plan.marks.values[stop] = v;
        return was;
    }

    public int person(int kind, int pace, boolean ear) {
        if (!within(kind, PLAIN, TAIL) || !within(pace, 1, 4)) {
            return BAD;
        }
        int number = plan.people.add(kind, pace, ear);
        if (number >= 0) {
            forget();
        }
        return number;
    }

    public int of(int person, int what) {
        if (!isPerson(person)) {
            return BAD;
        }
        switch (what) {
            case 0:
                return plan.people.kinds[person];
            case 1:
                return plan.people.paces[person];
            case 2:
                return plan.people.ears[person] ? 1 : 0;
            default:
                return BAD;
        }
    }

    public int rule(int what, int v) {
        if (!within(what, PACE, REACH) || !within(v, LEAST_RULES[what], MOST_RULES[what])) {
            return BAD;
        }
        int was = plan.rules[what];
        plan.rules[what] = v;
        forget();
        return was;
    }

    public int type(long w, int n) {
        if (!within(n, 1, 8) || !Tape.holdsText(w, n)) {
            return BAD;
        }
        return tape.write(w, n);
    }

    public int way() {
        int answer = tape.readWay(draftMarks);
        if (answer >= 0) {
            plan.marks.take(draftMarks);
            forget();
        }
        return answer;
    }

    public int group() {
        int answer = tape.readGroup(draftPeople);
        if (answer >= 0) {
            plan.people.take(draftPeople);
            forget();
        }
        return answer;
    }

    public int count(int what) {
        if (within(what, STOP, TURN)) {
            return plan.marks.sizes[what];
        }
        if (what == 4) {
            return plan.people.size;
        }
        return what == 5 ? plan.stopsMet() : BAD;
    }

    // ---- 2 what goes on

    public int fate(int person, int what) {
        if (!isPerson(person) || !within(what, 0, 3)) {
            return BAD;
        }
        goAlong();
        switch (what) {
            case 0:
                return walk.heard[person];
            case 1:
                return walk.rested[person];
            case 2:
                return walk.there[person];
            default:
                return walk.lostAt[person];
        }
    }

    public int at(int minute, int person) {
        if (!within(minute, 0, MINUTES - 1) || !within(person, -2, plan.people.size - 1)) {
            return BAD;
        }
        goAlong();
        // Behind the last row that was written nothing changes any more.
        int row = Math.max(0, Math.min(minute, trailRows - 1));
        return trail[row * TRAIL_ROW + person + 2];
    }

    public int all(int what) {
        if (!within(what, 0, 5)) {
            return BAD;
        }
        goAlong();
        switch (what) {
            case 0:
                return walk.heardTogether();
            case 1:
                return walk.leastHeard();
            case 2:
                return walk.guideThere;
            case 3:
                return walk.allThere();
            case 4:
                return walk.mostOut;
            default:
                return walk.lostSet();
        }
    }

    // ---- 3 what would be best

    public int best(int minute, int what) {
        if (!within(minute, 0, MINUTES - 1) || !within(what, 0, 3)) {
            return BAD;
        }
        if (plan.people.size == 0) {
            return NOT;
        }
        if (bestMinute != minute) {
            seekBest(minute);
            bestMinute = minute;
        }
        return bestFound[3] < 0 ? NONE : bestFound[what];
    }

    public int worth(int person) {
        if (!isPerson(person)) {
            return FAR_BELOW + BAD;
        }
        boolean tail = plan.people.kinds[person] == TAIL;
        if (!tail && !plan.people.ears[person]) {
            return FAR_BELOW + NOT;
        }
        goAlong();
        trial.load(plan);
        if (tail) {
            trial.people.kinds[person] = PLAIN;
        } else {
            trial.people.ears[person] = false;
        }
        trial.start();
        for (int minute = 0; minute < MINUTES && !trial.isOver(); minute++) {
            trial.live(minute);
        }
        return walk.heardTogether() - trial.heardTogether();
    }

    public int chosen(int minutes, int what) {
        if (!within(minutes, 0, 999) || !within(what, 0, 1)) {
            return BAD;
        }
        int left = minutes - cutUp(plan.end, plan.rules[PACE]);
        if (left < 0) {
            return NONE;
        }
        int bestSet = 0;
        int bestValue = 0;
        int sets = 1 << plan.marks.sizes[STOP];
        for (int set = 1; set < sets; set++) {
            int worthOfSet = plan.valueIfFits(set, left);
            if (worthOfSet > bestValue) {
                bestSet = set;
                bestValue = worthOfSet;
            }
        }
        return what == 0 ? bestSet : bestValue;
    }

    public int counted(int k, int c, int m, int e) {
        if (!within(k, 1, MARKS) || !areCosts(c, m, e)) {
            return BAD;
        }
        int stops = plan.stopsMet();
        return stops == 0 ? NOT : costOfCounting(stops, k, 100 * c, e * m);
    }

    public int often(int c, int m, int e) {
        if (!areCosts(c, m, e)) {
            return BAD;
        }
        int stops = plan.stopsMet();
        if (stops == 0) {
            return NOT;
        }
        int bestK = 1;
        int leastCost = costOfCounting(stops, 1, 100 * c, e * m);
        for (int k = 2; k <= MARKS; k++) {
            int cost = costOfCounting(stops, k, 100 * c, e * m);
            if (cost < leastCost) {
                bestK = k;
                leastCost = cost;
            }
        }
        return bestK;
    }

    public int square(int point, int v) {
        if (!within(point, 0, POINTS - 1) || !within(v, 0, LISTENER)) {
            return BAD;
        }
        int was = plan.ground.signs[point];
        plan.ground.signs[point] = v;
        return was;
    }

    public int stand(int what) {
        if (!within(what, 0, 2)) {
            return BAD;
        }
        plan.ground.survey(plan.rules[REACH]);
        if (what == 0) {
            return plan.ground.standPoints;
        }
        if (plan.ground.standPoints == 0) {
            return NONE;
        }
        return what == 1 ? plan.ground.bestPoint : plan.ground.bestFar;
    }

    public int colours(int n, int pairs, int i) {
        if (!within(n, 1, FLAGS) || !within(i, -1, n - 1) || !arePairs(n, pairs)) {
            return BAD;
        }
        flags.load(n, pairs);
        int fewest = flags.paint();
        return i < 0 ? fewest : flags.row[i];
    }

    public int image() {
        kept.take(plan);
        hasImage = true;
        return 1;
    }

    public int restore() {
        if (!hasImage) {
            return NONE;
        }
        plan.take(kept);
        forget();
        return 1;
    }

    // ---- 4 sheets

    public int slots(int sheet, int lane, int i, int n, int k) {
        if (!isSheet(sheet) || !isLane(lane) || !within(n, 2, GROUPS) || !within(k, -1, n - 1)) {
            return BAD;
        }
        int refusal = sheets[sheet].refusal(lane, i, 2 * n);
        if (refusal < 0) {
            return refusal;
        }
        if (!bridge.load(sheets[sheet].items, i, n)) {
            return NOT;
        }
        bridge.seek();
        return k < 0 ? bridge.leastWaited : bridge.bestOrder[k];
    }

    public int sheet(int sheet, int lane, int n) {
        if (!isSheet(sheet) || !isLane(lane) || n > ITEMS) {
            return BAD;
        }
        if (n < 0) {
            return SIZE;
        }
        sheets[sheet].renew(lane, n);
        return n;
    }

    public int drop(int sheet) {
        if (!isSheet(sheet)) {
            return BAD;
        }
        Sheet row = sheets[sheet];
        if (row.lane < 0) {
            return NULL;
        }
        row.lane = -1;
        return row.size;
    }

    public int item(int sheet, int lane, int i, int v) {
        if (!isSheet(sheet) || !isLane(lane)) {
            return BAD;
        }
        int refusal = sheets[sheet].refusal(lane, i, 1);
        if (refusal < 0) {
            return refusal;
        }
        sheets[sheet].put(i, v);
        return 1;
    }

    public int copy(int from, int i, int to, int j, int n) {
        if (!isSheet(from) || !isSheet(to)) {
            return BAD;
        }
        Sheet source = sheets[from];
        Sheet target = sheets[to];
        if (source.lane < 0 || target.lane < 0) {
            return NULL;
        }
        if (source.lane != target.lane) {
            return CAST;
        }
        if (!source.reaches(i, n) || !target.reaches(j, n)) {
            return INDEX;
        }
        System.arraycopy(source.items, i, target.items, j, n);
        return n;
    }

    // ---- what the calls share

    private static boolean within(int v, int least, int most) {
        return v >= least && v <= most;
    }

    private static int cutUp(int v, int by) {
        return by > 0 ? (v + by - 1) / by : 0;
    }

    private static boolean isSheet(int sheet) {
        return within(sheet, 0, SHEETS - 1);
    }

    private static boolean isLane(int lane) {
        return within(lane, 0, 2);
    }

    private static boolean areCosts(int c, int m, int e) {
        return within(c, 0, 9) && within(m, 0, 30) && within(e, 0, 99);
    }

    private static boolean arePairs(int n, int pairs) {
        return pairs >= 0 && pairs >> (n * (n - 1) / 2) == 0;
    }

    private static int costOfCounting(int stops, int k, int perCount, int perStopLater) {
        int later = 0;
        for (int stop = 1; stop <= stops; stop++) {
            later += Math.min(cutUp(stop, k) * k, stops) - stop;
        }
        return perCount * cutUp(stops, k) + perStopLater * later;
    }

    private boolean isPerson(int person) {
        return within(person, 0, plan.people.size - 1);
    }

    /** What was found about the way as it was holds no more. */
    private void forget() {
        walked = false;
        bestMinute = -1;
    }

    /** The walk as things are, unless it is known already. */
    private void goAlong() {
        if (walked) {
            return;
        }
        walk.load(plan);
        walk.start();
        trailRows = 0;
        for (int minute = 0; minute < MINUTES && !walk.isOver(); minute++) {
            walk.live(minute);
            writeTrail(minute * TRAIL_ROW);
            trailRows = minute + 1;
        }
        walked = true;
    }

    private void writeTrail(int from) {
        trail[from] = walk.out();
        trail[from + 1] = walk.guide;
        for (int i = 0; i < walk.people.size; i++) {
            trail[from + 2 + i] = walk.place[i];
        }
    }

    private void seekBest(int minute) {
        bestFound[3] = -1;
        trial.load(plan);
        // Nobody hears more than is spoken, and no more can be near than there are.
        int mostHeard = plan.minutesSpoken();
        int mostBegin = Math.min(MOST_BEGIN, plan.people.size);
        for (int pace = LEAST_RULES[PACE]; pace <= MOST_RULES[PACE]; pace++) {
            for (int begin = 0; begin <= mostBegin; begin++) {
                for (int stand = 0; stand <= MOST_STAND_TRIED; stand++) {
                    trial.takeRule(pace, begin, stand);
                    int heard = trial.leastHeardInTime(minute);
                    if (heard > bestFound[3]) {
                        noteBest(pace, begin, stand, heard);
                    }
                    if (heard >= mostHeard) {
                        return;
                    }
                }
            }
        }
    }

    private void noteBest(int pace, int begin, int stand, int heard) {
        bestFound[0] = pace;
        bestFound[1] = begin;
        bestFound[2] = stand;
        bestFound[3] = heard;
    }

    /** All that an image keeps. */
    private static final class Plan {
        int end = FIRST_END;
        final Marks marks = new Marks();
        final People people = new People();
        final int[] rules = FIRST_RULES.clone();
        final Square ground = new Square();

        void take(Plan other) {
            end = other.end;
            marks.take(other.marks);
            people.take(other.people);
            System.arraycopy(other.rules, 0, rules, 0, rules.length);
            System.arraycopy(other.ground.signs, 0, ground.signs, 0, POINTS);
        }

        boolean isMet(int stop) {
            return marks.places[STOP][stop] < end;
        }

        int stopsMet() {
            int met = 0;
            for (int stop = 0; stop < marks.sizes[STOP]; stop++) {
                met += isMet(stop) ? 1 : 0;
            }
            return met;
        }

        int minutesSpoken() {
            int minutes = 0;
            for (int stop = 0; stop < marks.sizes[STOP]; stop++) {
                minutes += isMet(stop) ? marks.lengths[STOP][stop] : 0;
            }
            return minutes;
        }

        /** The VALUE of a set of STOPS; below 0, if one is not met or there is no time. */
        int valueIfFits(int set, int minutes) {
            int left = minutes;
            int sum = 0;
            for (int stop = 0; stop < marks.sizes[STOP]; stop++) {
                if ((set >> stop & 1) == 1) {
                    if (!isMet(stop)) {
                        return -1;
                    }
                    left -= marks.lengths[STOP][stop];
                    sum += marks.values[stop];
                }
            }
            return left < 0 ? -1 : sum;
        }
    }

    /** The MARKS of the way, by kinds, as they came. */
    private static final class Marks {
        final int[] sizes = new int[4];
        final int[][] places = new int[4][MARKS];
        final int[][] lengths = new int[4][MARKS];
        final int[] values = new int[MARKS];

        void clear() {
            for (int kind = STOP; kind <= TURN; kind++) {
                sizes[kind] = 0;
            }
        }

        boolean isTaken(int kind, int place) {
            for (int i = 0; i < sizes[kind]; i++) {
                if (places[kind][i] == place) {
                    return true;
                }
            }
            return false;
        }

        int add(int kind, int place, int length) {
            if (isTaken(kind, place)) {
                return NOT;
            }
            int number = sizes[kind];
            if (number >= MARKS) {
                return FULL;
            }
            places[kind][number] = place;
            lengths[kind][number] = length;
            if (kind == STOP) {
                values[number] = FIRST_VALUE;
            }
            sizes[kind] = number + 1;
            return number;
        }

        void take(Marks other) {
            for (int kind = STOP; kind <= TURN; kind++) {
                sizes[kind] = other.sizes[kind];
                System.arraycopy(other.places[kind], 0, places[kind], 0, MARKS);
                System.arraycopy(other.lengths[kind], 0, lengths[kind], 0, MARKS);
            }
            System.arraycopy(other.values, 0, values, 0, MARKS);
        }
    }

    /** Who is led, as they came. */
    private static final class People {
        int size = 0;
        final int[] kinds = new int[PEOPLE];
        final int[] paces = new int[PEOPLE];
        final boolean[] ears = new boolean[PEOPLE];

        /** The number of THE TAIL; below 0: there is none. */
        int tailNumber() {
            for (int i = 0; i < size; i++) {
                if (kinds[i] == TAIL) {
                    return i;
                }
            }
            return -1;
        }

        int add(int kind, int pace, boolean ear) {
            if (kind == TAIL && tailNumber() >= 0) {
                return NOT;
            }
            if (size >= PEOPLE) {
                return FULL;
            }
            kinds[size] = kind;
            paces[size] = pace;
            ears[size] = ear;
            size++;
            return size - 1;
        }

        void take(People other) {
            size = other.size;
            System.arraycopy(other.kinds, 0, kinds, 0, PEOPLE);
            System.arraycopy(other.paces, 0, paces, 0, PEOPLE);
            System.arraycopy(other.ears, 0, ears, 0, PEOPLE);
        }
    }

    /** THE TAPE, and the reading of what is on it. */
    private static final class Tape {
        private static final int END_OF_TEXT = -1, TOO_MUCH = 1000;

        final byte[] bytes = new byte[TAPE_BYTES];
        int length = 0;
        // Where the reading is; when it fails, the byte that can't stand there.
        int position = 0;
        int numberStart = 0;

        static boolean holdsText(long w, int n) {
            for (int i = 0; i < n; i++) {
                if (!within((int) (w >>> 8 * i & 255), 32, 126)) {
                    return false;
                }
            }
            return true;
        }

        int write(long w, int n) {
            if (length + n > TAPE_BYTES) {
                return FULL;
            }
            for (int i = n - 1; i >= 0; i--) {
                bytes[length] = (byte) (w >>> 8 * i & 255);
                length++;
            }
            return length;
        }

        /** How many MARKS, or a FAULT. */
        int readWay(Marks draft) {
            draft.clear();
            position = 0;
            boolean ended = false;
            boolean fits = true;
            int read = 0;
            while (fits && !ended && read < MARKS) {
                fits = readMark(draft);
                read++;
                ended = fits && next() == END_OF_TEXT;
                fits = fits && (ended || read < MARKS && passes(';'));
            }
            length = 0;
            return fits ? read : FAULT - position;
        }

        /** How many PEOPLE, or a FAULT. */
        int readGroup(People draft) {
            draft.size = 0;
            position = 0;
            boolean ended = false;
            boolean fits = true;
            int read = 0;
            while (fits && !ended && read < PEOPLE) {
                fits = readPerson(draft);
                read++;
                ended = fits && next() == END_OF_TEXT;
                fits = fits && (ended || read < PEOPLE && passes(','));
            }
            length = 0;
            return fits ? read : FAULT - position;
        }

        boolean readMark(Marks draft) {
            int kind = signNumber("slwt");
            if (kind < 0) {
                return false;
            }
            position++;
            int place = readNumber(0, PLACES - 1);
            if (place < 0) {
                return false;
            }
            if (draft.isTaken(kind, place)) {
                position = numberStart;
                return false;
            }
            if (!passes(':')) {
                return false;
            }
            int minutes = readNumber(SHORTEST[kind], LONGEST[kind]);
            return minutes >= 0 && draft.add(kind, place, minutes) >= 0;
        }

        boolean readPerson(People draft) {
            int kind = signNumber("plot");
            if (kind < 0 || kind == TAIL && draft.tailNumber() >= 0) {
                return false;
            }
            position++;
            int pace = next() - '0';
            if (!within(pace, 1, 4)) {
                return false;
            }
            position++;
            boolean ear = passes('e');
            return draft.add(kind, pace, ear) >= 0;
        }

        /** A number in its bounds; else below 0, with the reading at its first byte. */
        int readNumber(int least, int most) {
            int sign = next();
            numberStart = position;
            if (!within(sign, '0', '9')) {
                return -1;
            }
            int number = 0;
            while (position < length && within(bytes[position], '0', '9')) {
                number = Math.min(10 * number + bytes[position] - '0', TOO_MUCH);
                position++;
            }
            if (!within(number, least, most)) {
                position = numberStart;
                return -1;
            }
            return number;
        }

        /** The next byte behind blanks, which stays to be read. */
        int next() {
            while (position < length && bytes[position] == ' ') {
                position++;
            }
            return position < length ? bytes[position] : END_OF_TEXT;
        }

        boolean passes(char sign) {
            if (next() != sign) {
                return false;
            }
            position++;
            return true;
        }

        /** Which of the signs is next; below 0: none of them. */
        int signNumber(String signs) {
            int sign = next();
            for (int i = 0; i < signs.length(); i++) {
                if (signs.charAt(i) == sign) {
                    return i;
                }
            }
            return -1;
        }
    }

    /** The way by PLACES: the LENGTH of what is met there, 0 for nothing. */
    private static final class Path {
        int end = 0;
        final int[] stops = new int[PLACES];
        final int[] lights = new int[PLACES];
        final int[] windows = new int[PLACES];
        final int[] turns = new int[PLACES];

        void lay(Marks marks, int newEnd) {
            end = newEnd;
            layKind(stops, marks, STOP);
            layKind(lights, marks, LIGHT);
            layKind(windows, marks, WINDOW);
            layKind(turns, marks, TURN);
        }

        void layKind(int[] row, Marks marks, int kind) {
            for (int place = 0; place < PLACES; place++) {
                row[place] = 0;
            }
            for (int i = 0; i < marks.sizes[kind]; i++) {
                int place = marks.places[kind][i];
                if (within(place, 0, end - 1)) {
                    row[place] = marks.lengths[kind][i];
                }
            }
        }

        boolean isRed(int place, int minute) {
            int length = lights[place];
            return length > 0 && minute % length < length / 2;
        }
    }

    /** What the guide did at the PLACE where she is. */
    private static final class Halt {
        boolean begun = false;
        boolean done = false;
        int waited = 0;
        int spoken = 0;
        int stayed = 0;
        int stood = 0;

        void clear() {
            begun = false;
            done = false;
            waited = 0;
            spoken = 0;
            stayed = 0;
            stood = 0;
        }
    }

    /** The guide and the people on the way, MINUTE by MINUTE. */
    private static final class Walk {
        final Path path = new Path();
        final People people = new People();
        final int[] rules = new int[5];
        final Halt halt = new Halt();
        int guide = 0;
        int guideThere = NONE;
        int mostOut = NONE;
        int tail = -1;
        int lostOnes = 0;
        // The least PLACE of those not LOST; below 0: there is none of them.
        int lastPlace = -1;
        final int[] place = new int[PEOPLE];
        final int[] left = new int[PEOPLE];
        final int[] heard = new int[PEOPLE];
        final int[] rested = new int[PEOPLE];
        final int[] there = new int[PEOPLE];
        final int[] lostAt = new int[PEOPLE];

        void load(Plan plan) {
            path.lay(plan.marks, plan.end);
            people.take(plan.people);
            System.arraycopy(plan.rules, 0, rules, 0, rules.length);
        }

        void takeRule(int pace, int begin, int stand) {
            rules[PACE] = pace;
            rules[BEGIN] = begin;
            rules[STAND] = stand;
        }

        void start() {
            halt.clear();
            guide = 0;
            guideThere = NONE;
            mostOut = NONE;
            tail = people.tailNumber();
            lostOnes = 0;
            lastPlace = people.size > 0 ? 0 : -1;
            for (int i = 0; i < people.size; i++) {
                place[i] = 0;
                left[i] = 0;
                heard[i] = 0;
                rested[i] = 0;
                there[i] = NONE;
                lostAt[i] = NONE;
            }
        }

        /** Nothing changes any more. */
        boolean isOver() {
            return guide == path.end && (lastPlace < 0 || lastPlace == path.end);
        }

        void live(int minute) {
            if (guide < path.end) {
                lead(minute);
            }
            for (int i = 0; i < people.size; i++) {
                if (lostAt[i] < 0) {
                    follow(i, minute);
                }
            }
            closeMinute(minute);
        }

        void lead(int minute) {
            if (isAtOpenStop() && isKept()) {
                return;
            }
            for (int step = 0; step < rules[PACE]; step++) {
                if (guide >= path.end || isAtOpenStop() || path.isRed(guide, minute)) {
                    return;
                }
                guide++;
                halt.clear();
            }
        }

        boolean isAtOpenStop() {
            return path.stops[guide] > 0 && !halt.done;
        }

        /** Her MINUTE at a STOP that is not DONE: whether she stays there. */
        boolean isKept() {
            if (!halt.begun) {
                if (!isToBegin()) {
                    halt.waited++;
                    return true;
                }
                halt.begun = true;
            }
            if (halt.spoken < path.stops[guide]) {
                halt.spoken++;
                speak();
                return true;
            }
            if (halt.stood >= rules[STAND] || halt.stayed >= rules[PATIENCE]) {
                halt.done = true;
                return false;
            }
            halt.stayed++;
            return true;
        }

        boolean isToBegin() {
            int near = 0;
            for (int i = 0; i < people.size; i++) {
                near += lostAt[i] < 0 && guide - place[i] <= rules[REACH] ? 1 : 0;
            }
            return near >= rules[BEGIN] || near == people.size - lostOnes || halt.waited >= rules[PATIENCE];
        }

        void speak() {
            for (int i = 0; i < people.size; i++) {
                int reach = people.ears[i] ? 3 * rules[REACH] : rules[REACH];
                heard[i] += lostAt[i] < 0 && guide - place[i] <= reach ? 1 : 0;
            }
        }

        void follow(int person, int minute) {
            if (left[person] > 0) {
                left[person]--;
                return;
            }
            int kind = people.kinds[person];
            if (kind == OLD && minute % 2 == 1) {
                return;
            }
            int farthest = kind == TAIL ? Math.min(guide, lastBeside(person)) : guide;
            for (int step = 0; step < people.paces[person]; step++) {
                int here = place[person];
                if (here >= farthest || path.isRed(here, minute)) {
                    return;
                }
                if (losesItsWay(person)) {
                    lostAt[person] = here;
                    lostOnes++;
                    return;
                }
                place[person] = here + 1;
                if (kind == LOOKING && path.windows[here + 1] > 0) {
                    left[person] = path.windows[here + 1];
                    return;
                }
            }
        }

        /** The least PLACE of all others that are not LOST, or one that nobody comes to. */
        int lastBeside(int person) {
            int last = PLACES;
            for (int i = 0; i < people.size; i++) {
                if (i != person && lostAt[i] < 0) {
                    last = Math.min(last, place[i]);
                }
            }
            return last;
        }

        boolean losesItsWay(int person) {
            int here = place[person];
            int turn = path.turns[here];
            return turn > 0 && person != tail && guide - here > turn && (tail < 0 || place[tail] > here);
        }

        void closeMinute(int minute) {
            boolean underway = guide < path.end;
            lastPlace = -1;
            for (int i = 0; i < people.size; i++) {
                if (lostAt[i] < 0) {
                    int here = place[i];
                    lastPlace = lastPlace < 0 ? here : Math.min(lastPlace, here);
                    rested[i] += underway && here == guide ? 1 : 0;
                    there[i] = there[i] < 0 && here == path.end ? minute : there[i];
                }
            }
            if (!underway && guideThere < 0) {
                guideThere = minute;
            }
            mostOut = Math.max(mostOut, out());
            if (path.stops[guide] > 0) {
                halt.stood = out() <= rules[REACH] ? halt.stood + 1 : 0;
            }
        }

        /** NONE, if all are LOST: below every REACH, as all of nobody are near. */
        int out() {
            return lastPlace < 0 ? NONE : guide - lastPlace;
        }

        /** The LEAST OFF, if all are THERE by the MINUTE; else below 0. */
        int leastHeardInTime(int lastMinute) {
            start();
            for (int minute = 0; minute <= lastMinute && lostOnes == 0; minute++) {
                live(minute);
                if (isOver()) {
                    return lostOnes == 0 ? leastHeard() : -1;
                }
            }
            return -1;
        }

        int heardTogether() {
            int sum = 0;
            for (int i = 0; i < people.size; i++) {
                sum += heard[i];
            }
            return sum;
        }

        int leastHeard() {
            int least = NONE;
            for (int i = 0; i < people.size; i++) {
                least = i == 0 ? heard[i] : Math.min(least, heard[i]);
            }
            return least;
        }

        int allThere() {
            int last = NONE;
            for (int i = 0; i < people.size; i++) {
                if (there[i] < 0) {
                    return NONE;
                }
                last = Math.max(last, there[i]);
            }
            return last;
        }

        int lostSet() {
            int set = 0;
            for (int i = 0; i < people.size; i++) {
                set |= lostAt[i] >= 0 ? 1 << i : 0;
            }
            return set;
        }
    }

    /** THE SQUARE, and what a survey of it found. */
    private static final class Square {
        final int[] signs = new int[POINTS];
        int standPoints = 0;
        int bestPoint = 0;
        int bestFar = 0;
        // The bounds of all LISTENERS; without any, those of no POINT.
        int lowX = 0;
        int highX = 0;
        int lowY = 0;
        int highY = 0;

        void survey(int reach) {
            findBounds();
            standPoints = 0;
            for (int point = 0; point < POINTS; point++) {
                int far = farthest(point % SIDE, point / SIDE);
                if (signs[point] != PILLAR && far <= reach && isHeardAllAround(point % SIDE, point / SIDE)) {
                    if (standPoints == 0 || far < bestFar) {
                        bestPoint = point;
                        bestFar = far;
                    }
                    standPoints++;
                }
            }
        }

        void findBounds() {
            lowX = SIDE;
            highX = -1;
            lowY = SIDE;
            highY = -1;
            for (int point = 0; point < POINTS; point++) {
                if (signs[point] == LISTENER) {
                    lowX = Math.min(lowX, point % SIDE);
                    highX = Math.max(highX, point % SIDE);
                    lowY = Math.min(lowY, point / SIDE);
                    highY = Math.max(highY, point / SIDE);
                }
            }
        }

        /** The farthest LISTENER by the greater of x and y is at the bounds of all. */
        int farthest(int x, int y) {
            if (highX < 0) {
                return 0;
            }
            return Math.max(Math.max(x - lowX, highX - x), Math.max(y - lowY, highY - y));
        }

        boolean isHeardAllAround(int x, int y) {
            for (int dy = -1; dy <= 1; dy++) {
                for (int dx = -1; dx <= 1; dx++) {
                    if ((dx != 0 || dy != 0) && isListenerHidden(x, y, dx, dy)) {
                        return false;
                    }
                }
            }
            return true;
        }

        boolean isListenerHidden(int x, int y, int dx, int dy) {
            boolean pillarSeen = false;
            for (int far = 1; far < SIDE; far++) {
                int nowX = x + far * dx;
                int nowY = y + far * dy;
                if (!within(nowX, 0, SIDE - 1) || !within(nowY, 0, SIDE - 1)) {
                    return false;
                }
                int sign = signs[SIDE * nowY + nowX];
                if (sign == LISTENER && pillarSeen) {
                    return true;
                }
                pillarSeen = pillarSeen || sign == PILLAR;
            }
            return false;
        }
    }

    /** FLAGS, of which some meet, and a row of colours for them. */
    private static final class Flags {
        int size = 0;
        // Whom of those ahead of it each meets, as a set.
        final int[] meets = new int[FLAGS];
        final int[] row = new int[FLAGS];

        void load(int n, int pairs) {
            size = n;
            for (int a = 0; a < n; a++) {
                meets[a] = 0;
            }
            int bit = 0;
            for (int a = 0; a < n; a++) {
                for (int b = a + 1; b < n; b++) {
                    if ((pairs >> bit & 1) == 1) {
                        meets[b] |= 1 << a;
                    }
                    bit++;
                }
            }
        }

        /** The fewest colours; the row is the first with these. */
        int paint() {
            for (int most = 1; most < size; most++) {
                if (paintFrom(this, 0, 0, most)) {
                    return most;
                }
            }
            paintFrom(this, 0, 0, size);
            return size;
        }

        // In the first row a colour comes only behind all those below it.
        private static boolean paintFrom(Flags flags, int flag, int used, int most) {
            if (flag >= flags.size) {
                return true;
            }
            for (int colour = 0; colour <= used && colour < most; colour++) {
                if (flags.isFree(flag, colour)) {
                    flags.row[flag] = colour;
                    if (paintFrom(flags, flag + 1, Math.max(used, colour + 1), most)) {
                        return true;
                    }
                }
            }
            return false;
        }

        boolean isFree(int flag, int colour) {
            for (int other = 0; other < flag; other++) {
                if ((meets[flag] >> other & 1) == 1 && row[other] == colour) {
                    return false;
                }
            }
            return true;
        }
    }

    /** Groups at a bridge, and the order in which they wait least. */
    private static final class Bridge {
        int size = 0;
        final int[] comes = new int[GROUPS];
        final int[] needs = new int[GROUPS];
        final int[] order = new int[GROUPS];
        final int[] bestOrder = new int[GROUPS];
        int leastWaited = 0;

        /** Whether all groups are as told. */
        boolean load(int[] items, int from, int n) {
            size = n;
            for (int g = 0; g < n; g++) {
                comes[g] = items[from + 2 * g];
                needs[g] = items[from + 2 * g + 1];
                if (!within(comes[g], 0, 999) || !within(needs[g], 1, 99)) {
                    return false;
                }
            }
            return true;
        }

        void seek() {
            leastWaited = MORE_THAN_ALL_WAIT;
            sendFrom(this, 0, 0, 0, 0);
        }

        private static void sendFrom(Bridge bridge, int sent, int gone, int free, int waited) {
            if (waited >= bridge.leastWaited) {
                return;
            }
            if (sent >= bridge.size) {
                bridge.leastWaited = waited;
                System.arraycopy(bridge.order, 0, bridge.bestOrder, 0, GROUPS);
                return;
            }
            for (int g = 0; g < bridge.size; g++) {
                if ((gone >> g & 1) == 0) {
                    int goes = Math.max(free, bridge.comes[g]);
                    bridge.order[sent] = g;
                    sendFrom(bridge, sent + 1, gone | 1 << g, goes + bridge.needs[g], waited + goes - bridge.comes[g]);
                }
            }
        }
    }

    /** One of SHEETS. */
    private static final class Sheet {
        // Below 0: it holds nothing.
        int lane = -1;
        int size = 0;
        final int[] items = new int[ITEMS];

        void renew(int newLane, int n) {
            lane = newLane;
            size = n;
            for (int i = 0; i < ITEMS; i++) {
                items[i] = 0;
            }
        }

        /** Why n items from i on can't be taken as a row of the LANE; 0: they can. */
        int refusal(int asLane, int i, int n) {
            if (lane < 0) {
                return NULL;
            }
            if (lane != asLane) {
                return CAST;
            }
            return reaches(i, n) ? 0 : INDEX;
        }

        boolean reaches(int i, int n) {
            return within(i, 0, size) && within(n, 0, size - i);
        }

        void put(int i, int v) {
            switch (lane) {
                case 0:
                    items[i] = (byte) v;
                    break;
                case 1:
                    items[i] = (short) v;
                    break;
                default:
                    items[i] = v;
                    break;
            }
        }
    }
}
