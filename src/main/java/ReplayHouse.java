import java.util.Arrays;
import java.util.NoSuchElementException;

/** A house of replays: kept asks sent again to two versions of a service that are told by small texts. */
public final class ReplayHouse {
    public static final int NONE = -1;

    private static final int VERSIONS = 2;
    private static final int KINDS = 4;
    private static final int KEYS = 8;
    private static final int ARGUMENTS = 16;
    private static final int FIELDS = 8;
    private static final int MOST_ASKS = 30;
    private static final int MOST_TICK = 100000;
    private static final int MOST_RATE = 1000;
    private static final int MOST_BYTES = 400;
    private static final int FEED_BYTES = 20;
    private static final int MOST_STEPS = 30;
    private static final int MOST_WHENS = 6;
    private static final int MOST_OPEN = 12;
    private static final int MOST_DIGITS = 6;
    private static final int MOST_LEFT_OUT = 10;
    private static final int LEARNING_ID = 1000000;

    // A script is a row of signs in the order in which a stack works them: the lowest bits say what is done, the
    // others hold a number: that of NUMBER itself, or for the steps (PUT and above) which S it is, and for WHEN
    // above that the sign to go on at if it is not to be done.
    private static final int SIGN_BITS = 4;
    private static final int SIGN_MASK = 15;
    private static final int STEP_BITS = 5;
    private static final int STEP_MASK = 31;
    private static final int NUMBER = 0;
    private static final int FIRST_NUMBER = 1;
    private static final int SECOND_NUMBER = 2;
    private static final int NEW_ID = 3;
    private static final int GET = 4;
    private static final int OUTSIDE = 5;
    private static final int PLUS = 6;
    private static final int MINUS = 7;
    private static final int TIMES = 8;
    private static final int LESS = 9;
    private static final int ALIKE = 10;
    private static final int PUT = 11;
    private static final int SAY = 12;
    private static final int WHEN = 13;

    // Each T that is open holds two values back at most, so do the E around them all, and put holds back one more.
    private static final int STACK = 2 * MOST_OPEN + 8;

    private final int[] tape;
    private final int[] begins;
    private final int[] kept;
    private final boolean[] noisy;
    private final Script[] scripts;
    private final Reader reader;
    private final AskBook book;
    private final Run[] whole;
    private final Run[] trial;
    private final int[] smallSets;
    private int smallKnown;
    private boolean runsKnown;
    private int tapeLength;

    public ReplayHouse() {
        tape = new int[MOST_BYTES];
        begins = new int[KEYS];
        kept = new int[ARGUMENTS];
        noisy = new boolean[KINDS * FIELDS];
        reader = new Reader();
        book = new AskBook();
        Script empty = new Script(new int[0], 0);
        scripts = new Script[VERSIONS * KINDS];
        for (int i = 0; i < scripts.length; i++) {
            scripts[i] = empty;
        }
        whole = new Run[VERSIONS];
        trial = new Run[VERSIONS];
        for (int version = 0; version < VERSIONS; version++) {
            whole[version] = new Run();
            trial[version] = new Run();
        }
        smallSets = new int[MOST_ASKS];
    }

    public int feed(int a, int b, int c, int d, int e) {
        if (tapeLength + FEED_BYTES > MOST_BYTES) {
            return NONE;
        }
        layNumber(a);
        layNumber(b);
        layNumber(c);
        layNumber(d);
        layNumber(e);
        return tapeLength;
    }

    public int text(int version, int kind, int n) throws IllegalArgumentException {
        checkVersion(version);
        checkKind(kind);
        if (n < 0 || n > tapeLength) {
            throw new IllegalArgumentException("not so many bytes on the tape");
        }
        tapeLength = 0;
        if (!reader.understands(tape, n)) {
            return -2 - reader.place();
        }
        Script script = reader.script();
        scripts[version * KINDS + kind] = script;
        forgetRuns();
        return script.steps;
    }

    public int begin(int key, int value) throws IndexOutOfBoundsException {
        checkKey(key);
        int before = begins[key];
        begins[key] = value;
        forgetRuns();
        return before;
    }

    public int keep(int argument, int value) throws IndexOutOfBoundsException {
        if (argument < 0 || argument >= ARGUMENTS) {
            throw new IndexOutOfBoundsException("no such argument");
        }
        int before = kept[argument];
        kept[argument] = value;
        forgetRuns();
        return before;
    }

    public int ask(int kind, int a, int b, int tick) throws IllegalArgumentException {
        checkKind(kind);
        if (tick < 0 || tick > MOST_TICK) {
            throw new IllegalArgumentException("no such tick");
        }
        if (book.size >= MOST_ASKS) {
            return NONE;
        }
        forgetRuns();
        return book.write(kind, a, b, tick);
    }

    public int caused(int ask, int by, int field) throws NoSuchElementException, IllegalArgumentException {
        checkAsk(ask);
        if (by != NONE) {
            checkAsk(by);
        }
        if (by >= ask) {
            throw new IllegalArgumentException("caused by one that is not lower");
        }
        checkField(field);
        book.causes[ask] = by;
        book.causeFields[ask] = field;
        forgetRuns();
        return 1;
    }

    public int fields(int version, int ask) throws NoSuchElementException, IllegalArgumentException {
        checkAsk(ask);
        checkVersion(version);
        bringRuns();
        return whole[version].lengths[ask];
    }

    public int field(int version, int ask, int field) throws NoSuchElementException, IllegalArgumentException {
        checkAsk(ask);
        checkVersion(version);
        bringRuns();
        Run run = whole[version];
        return run.has(ask, field) ? run.answers[ask * FIELDS + field] : 0;
    }

    public int end(int version, int key) throws IndexOutOfBoundsException, IllegalArgumentException {
        checkKey(key);
        checkVersion(version);
        bringRuns();
        return whole[version].values[key];
    }

    public int touched(int version, int ask, int what) throws NoSuchElementException, IllegalArgumentException {
        checkAsk(ask);
        checkVersion(version);
        if (what < 0 || what > 2) {
            throw new IllegalArgumentException("no such what");
        }
        bringRuns();
        Run run = whole[version];
        if (what == 0) {
            return run.reads[ask];
        }
        return what == 1 ? run.writes[ask] : run.steps[ask];
    }

    public int calls(int version) throws IllegalArgumentException {
        checkVersion(version);
        bringRuns();
        return whole[version].outsideCalls;
    }

    public int never(int version, int kind) throws IllegalArgumentException {
        checkVersion(version);
        checkKind(kind);
        bringRuns();
        int stepsDone = Integer.bitCount(whole[version].stepsOfKinds[kind]);
        return scripts[version * KINDS + kind].steps - stepsDone;
    }

    public boolean noise(int kind, int field, boolean is) throws IllegalArgumentException {
        checkKind(kind);
        checkField(field);
        boolean before = noisy[kind * FIELDS + field];
        noisy[kind * FIELDS + field] = is;
        smallKnown = 0;
        return before;
    }

    public int learn() {
        bringRuns();
        doAll(trial[0], 0, LEARNING_ID);
        int came = 0;
        for (int ask = 0; ask < book.size; ask++) {
            came += learnFrom(ask, whole[0], trial[0]);
        }
        smallKnown = 0;
        return came;
    }

    public int differs(int ask) throws NoSuchElementException {
        checkAsk(ask);
        bringRuns();
        return whereDifferent(ask, whole);
    }

    public int shapes() {
        bringRuns();
        int seen = 0;
        for (int ask = 0; ask < book.size; ask++) {
            int shape = shapeOf(ask);
            if (shape != NONE) {
                seen |= 1 << shape;
            }
        }
        return Integer.bitCount(seen);
    }

    public int shape(int k, int what) throws IllegalArgumentException {
        if (what < 0 || what > 3) {
            throw new IllegalArgumentException("no such what");
        }
        bringRuns();
        int lowest = lowestOfShape(k);
        if (lowest == NONE) {
            return NONE;
        }
        switch (what) {
            case 0:
                return book.kinds[lowest];
            case 1:
                return whereDifferent(lowest, whole);
            case 2:
                return asksOfShape(shapeOf(lowest));
            default:
                return lowest;
        }
    }

    public boolean touch(int ask, int other) throws NoSuchElementException {
        checkAsk(ask);
        checkAsk(other);
        bringRuns();
        return areTouching(ask, other);
    }

    public int free(int ask) throws NoSuchElementException {
        checkAsk(ask);
        bringRuns();
        int others = 0;
        for (int other = 0; other < book.size; other++) {
            if (other != ask && !areTouching(ask, other)) {
                others++;
            }
        }
        return others;
    }

    public int small(int ask) throws NoSuchElementException {
        checkAsk(ask);
        bringRuns();
        if (whereDifferent(ask, whole) == NONE) {
            return NONE;
        }
        return Integer.bitCount(smallSet(ask));
    }

    public int smallest(int ask, int k) throws NoSuchElementException {
        checkAsk(ask);
        bringRuns();
        if (k < 0 || whereDifferent(ask, whole) == NONE) {
            return NONE;
        }
        int set = smallSet(ask);
        int place = book.placeOf(ask);
        int ahead = 0;
        for (int i = Math.max(0, place - MOST_LEFT_OUT); i < place; i++) {
            if (isIn(set, place, i)) {
                if (ahead == k) {
                    return book.order[i];
                }
                ahead++;
            }
        }
        return NONE;
    }

    public int lag(int version, int p, int q) throws IllegalArgumentException {
        checkVersion(version);
        if (p < 1 || p > MOST_RATE || q < 1 || q > MOST_RATE) {
            throw new IllegalArgumentException("no such rate");
        }
        bringRuns();
        Run run = whole[version];
        int ends = 0;
        int longest = 0;
        for (int i = 0; i < book.size; i++) {
            int ask = book.order[i];
            int comes = book.ticks[ask] * p / q;
            int starts = Math.max(comes, ends);
            longest = Math.max(longest, starts - comes);
            ends = starts + Math.max(1, run.steps[ask]);
        }
        return longest;
    }

    public int count(int what) {
        switch (what) {
            case 0:
                return book.size;
            case 1:
                return noisyFields();
            case 2:
                return tapeLength;
            case 3:
                return stepsOfTexts();
            default:
                return NONE;
        }
    }

    private static void checkVersion(int version) {
        if (version < 0 || version >= VERSIONS) {
            throw new IllegalArgumentException("no such version");
        }
    }

    private static void checkKind(int kind) {
        if (kind < 0 || kind >= KINDS) {
            throw new IllegalArgumentException("no such kind");
        }
    }

    private static void checkField(int field) {
        if (field < 0 || field >= FIELDS) {
            throw new IllegalArgumentException("no such field");
        }
    }

    private static void checkKey(int key) {
        if (key < 0 || key >= KEYS) {
            throw new IndexOutOfBoundsException("no such key");
        }
    }

    private void checkAsk(int ask) {
        if (ask < 0 || ask >= book.size) {
            throw new NoSuchElementException("no such ask");
        }
    }

    private void layNumber(int number) {
        for (int shift = 24; shift >= 0; shift -= 8) {
            if (tapeLength < tape.length) {
                tape[tapeLength] = (number >>> shift) & 255;
                tapeLength++;
            }
        }
    }

    private int noisyFields() {
        int fields = 0;
        for (int i = 0; i < noisy.length; i++) {
            if (noisy[i]) {
                fields++;
            }
        }
        return fields;
    }

    private int stepsOfTexts() {
        int steps = 0;
        for (int i = 0; i < scripts.length; i++) {
            steps += scripts[i].steps;
        }
        return steps;
    }

    private void forgetRuns() {
        runsKnown = false;
        smallKnown = 0;
    }

    // The runs with all asks are kept from call to call, since most calls look at the same ones.
    private void bringRuns() {
        if (runsKnown) {
            return;
        }
        for (int version = 0; version < VERSIONS; version++) {
            doAll(whole[version], version, 0);
        }
        runsKnown = true;
    }

    private void doAll(Run run, int version, int latestId) {
        run.start(begins, kept, latestId);
        for (int i = 0; i < book.size; i++) {
            doAsk(run, version, book.order[i]);
        }
    }

    private void doAsk(Run run, int version, int ask) {
        int kind = book.kinds[ask];
        int cause = book.causes[ask];
        int field = book.causeFields[ask];
        int a = book.firsts[ask];
        if (cause != NONE && run.has(cause, field)) {
            a = run.answers[cause * FIELDS + field];
        }
        run.obey(scripts[version * KINDS + kind], ask, kind, a, book.seconds[ask]);
    }

    private int learnFrom(int ask, Run first, Run second) {
        int both = Math.min(first.lengths[ask], second.lengths[ask]);
        int came = 0;
        for (int field = 0; field < both; field++) {
            int i = ask * FIELDS + field;
            int ofKind = book.kinds[ask] * FIELDS + field;
            if (first.answers[i] != second.answers[i] && !noisy[ofKind]) {
                noisy[ofKind] = true;
                came++;
            }
        }
        return came;
    }

    private int whereDifferent(int ask, Run[] runs) {
        Run one = runs[0];
        Run other = runs[1];
        int both = Math.min(one.lengths[ask], other.lengths[ask]);
        for (int field = 0; field < both; field++) {
            int i = ask * FIELDS + field;
            if (one.answers[i] != other.answers[i] && !noisy[book.kinds[ask] * FIELDS + field]) {
                return field;
            }
        }
        return one.lengths[ask] == other.lengths[ask] ? NONE : both;
    }

    // A shape is one number below 32: the place is below 8, for a shorter answer has 7 fields at most.
    private int shapeOf(int ask) {
        int where = whereDifferent(ask, whole);
        return where == NONE ? NONE : book.kinds[ask] * FIELDS + where;
    }

    private int lowestOfShape(int k) {
        int seen = 0;
        int found = 0;
        for (int ask = 0; ask < book.size; ask++) {
            int shape = shapeOf(ask);
            if (shape != NONE && (seen & (1 << shape)) == 0) {
                if (found == k) {
                    return ask;
                }
                seen |= 1 << shape;
                found++;
            }
        }
        return NONE;
    }

    private int asksOfShape(int shape) {
        int asks = 0;
        for (int ask = 0; ask < book.size; ask++) {
            if (shapeOf(ask) == shape) {
                asks++;
            }
        }
        return asks;
    }

    private boolean areTouching(int ask, int other) {
        if (ask == other) {
            return false;
        }
        if (book.causes[ask] == other || book.causes[other] == ask) {
            return true;
        }
        Run run = whole[0];
        int keys = run.reads[ask] | run.writes[ask];
        int otherKeys = run.reads[other] | run.writes[other];
        return (run.writes[ask] & otherKeys) != 0 || (run.writes[other] & keys) != 0;
    }

    private static boolean isIn(int set, int place, int i) {
        return (set & (1 << (place - 1 - i))) != 0;
    }

    // The set of those that are in, as bits: the lowest bit is the one just ahead of the ask. With all of them in
    // the ask is different (only such asks come here), so that set needs no trial and stands for "none found yet".
    private int smallSet(int ask) {
        if ((smallKnown & (1 << ask)) != 0) {
            return smallSets[ask];
        }
        int place = book.placeOf(ask);
        int from = Math.max(0, place - MOST_LEFT_OUT);
        int all = (1 << (place - from)) - 1;
        int found = all;
        doAlwaysIn(from);
        for (int size = 0; size < place - from && found == all; size++) {
            for (int set = all - 1; set >= 0 && found == all; set--) {
                if (Integer.bitCount(set) == size && isDifferentWith(set, from, place)) {
                    found = set;
                }
            }
        }
        smallSets[ask] = found;
        smallKnown |= 1 << ask;
        return found;
    }

    private void doAlwaysIn(int from) {
        for (int version = 0; version < VERSIONS; version++) {
            Run run = trial[version];
            run.start(begins, kept, 0);
            for (int i = 0; i < from; i++) {
                doAsk(run, version, book.order[i]);
            }
            run.mark();
        }
    }

    private boolean isDifferentWith(int set, int from, int place) {
        int ask = book.order[place];
        for (int version = 0; version < VERSIONS; version++) {
            Run run = trial[version];
            run.backToMark();
            // The ask itself too: one of the ten may be caused by it, though it is done ahead of it.
            for (int i = from; i <= place; i++) {
                run.isDone[book.order[i]] = false;
            }
            for (int i = from; i < place; i++) {
                if (isIn(set, place, i)) {
                    doAsk(run, version, book.order[i]);
                }
            }
            doAsk(run, version, ask);
        }
        return whereDifferent(ask, trial) != NONE;
    }

    /** A text as signs, with the number of its S. */
    private static final class Script {
        final int[] signs;
        final int steps;

        Script(int[] signs, int steps) {
            this.signs = signs;
            this.steps = steps;
        }
    }

    /** Reads a text from the tape; where it stops is the place of a text that is none. */
    private static final class Reader {
        private static final int NO_BYTE = -1;

        private final int[] signs = new int[MOST_BYTES];
        private int[] bytes = new int[0];
        private int length;
        private int at;
        private int used;
        private int steps;

        boolean understands(int[] tape, int n) {
            bytes = tape;
            length = Math.min(n, tape.length);
            at = 0;
            used = 0;
            steps = 0;
            return readSteps(0) && at >= length;
        }

        int place() {
            return at;
        }

        Script script() {
            return new Script(Arrays.copyOf(signs, used), steps);
        }

        // Every step read moves on or fails at the 31st, so one turn more than the most steps is enough.
        private boolean readSteps(int whens) {
            for (int turn = 0; turn <= MOST_STEPS; turn++) {
                skipBlanks();
                if (at >= length || byteAt(at) == ')') {
                    return true;
                }
                if (!readStep(whens)) {
                    return false;
                }
            }
            return false;
        }

        private boolean readStep(int whens) {
            if (steps >= MOST_STEPS) {
                return false;
            }
            int step = steps;
            steps++;
            if (takeWord("put")) {
                return readSum(0) && readSum(0) && takeSign(';') && lay(PUT, step);
            }
            if (takeWord("say")) {
                return readCompare(0) && takeSign(';') && lay(SAY, step);
            }
            return whens < MOST_WHENS && takeWord("when") && readWhen(whens, step);
        }

        private boolean readWhen(int whens, int step) {
            if (!readCompare(0) || !takeSign('(')) {
                return false;
            }
            int mine = used;
            if (!lay(WHEN, step) || !readSteps(whens + 1) || !takeSign(')')) {
                return false;
            }
            signs[mine] |= used << (STEP_BITS + SIGN_BITS);
            return true;
        }

        private boolean readCompare(int open) {
            if (!readSum(open)) {
                return false;
            }
            if (takeSign('<')) {
                return readSum(open) && lay(LESS, 0);
            }
            if (takeSign('=')) {
                return readSum(open) && lay(ALIKE, 0);
            }
            return true;
        }

        private boolean readSum(int open) {
            if (!readTerm(open)) {
                return false;
            }
            for (int turn = 0; turn < MOST_BYTES; turn++) {
                skipBlanks();
                int join = joinFor(byteAt(at));
                if (join == NONE) {
                    return true;
                }
                at++;
                if (!readTerm(open) || !lay(join, 0)) {
                    return false;
                }
            }
            return true;
        }

        private static int joinFor(int value) {
            if (value == '+') {
                return PLUS;
            }
            if (value == '-') {
                return MINUS;
            }
            return value == '*' ? TIMES : NONE;
        }

        private boolean readTerm(int open) {
            skipBlanks();
            if (isDigit(byteAt(at))) {
                return readNumber();
            }
            if (takeWord("a")) {
                return lay(FIRST_NUMBER, 0);
            }
            if (takeWord("b")) {
                return lay(SECOND_NUMBER, 0);
            }
            if (takeWord("id")) {
                return lay(NEW_ID, 0);
            }
            if (open >= MOST_OPEN) {
                return false;
            }
            if (takeWord("get")) {
                return readTerm(open + 1) && lay(GET, 0);
            }
            if (takeWord("outside")) {
                return readTerm(open + 1) && lay(OUTSIDE, 0);
            }
            return takeSign('(') && readCompare(open + 1) && takeSign(')');
        }

        private boolean readNumber() {
            int number = 0;
            for (int digits = 0; digits < MOST_DIGITS && isDigit(byteAt(at)); digits++) {
                number = number * 10 + byteAt(at) - '0';
                at++;
            }
            return !isDigit(byteAt(at)) && lay(NUMBER, number);
        }

        private void skipBlanks() {
            while (at < length && bytes[at] == ' ') {
                at++;
            }
        }

        private boolean takeSign(char sign) {
            skipBlanks();
            if (byteAt(at) != sign) {
                return false;
            }
            at++;
            return true;
        }

        // A word ends where no small letter follows, so "says" is not "say".
        private boolean takeWord(String word) {
            for (int i = 0; i < word.length(); i++) {
                if (byteAt(at + i) != word.charAt(i)) {
                    return false;
                }
            }
            if (isLetter(byteAt(at + word.length()))) {
                return false;
            }
            at += word.length();
            return true;
        }

        private int byteAt(int i) {
            return i >= 0 && i < length ? bytes[i] : NO_BYTE;
        }

        private static boolean isDigit(int value) {
            return value >= '0' && value <= '9';
        }

        private static boolean isLetter(int value) {
            return value >= 'a' && value <= 'z';
        }

        // Every sign stands for at least one byte of its own, so there is room for all of them.
        private boolean lay(int sign, int number) {
            if (used >= signs.length) {
                return false;
            }
            signs[used] = sign | number << SIGN_BITS;
            used++;
            return true;
        }
    }

    /** The asks as they were told, and the order in which they are done. */
    private static final class AskBook {
        final int[] kinds = new int[MOST_ASKS];
        final int[] firsts = new int[MOST_ASKS];
        final int[] seconds = new int[MOST_ASKS];
        final int[] ticks = new int[MOST_ASKS];
        final int[] causes = new int[MOST_ASKS];
        final int[] causeFields = new int[MOST_ASKS];
        final int[] order = new int[MOST_ASKS];
        int size;

        int write(int kind, int a, int b, int tick) {
            if (size >= MOST_ASKS) {
                return NONE;
            }
            int ask = size;
            kinds[ask] = kind;
            firsts[ask] = a;
            seconds[ask] = b;
            ticks[ask] = tick;
            causes[ask] = NONE;
            int place = ask;
            while (place > 0 && ticks[order[place - 1]] > tick) {
                order[place] = order[place - 1];
                place--;
            }
            order[place] = ask;
            size++;
            return ask;
        }

        int placeOf(int ask) {
            for (int i = 0; i < size; i++) {
                if (order[i] == ask) {
                    return i;
                }
            }
            return 0;
        }
    }

    /** What one run of a version has come to: its values, and of each ask its answer and what it touched. */
    private static final class Run {
        final int[] values = new int[KEYS];
        final int[] answers = new int[MOST_ASKS * FIELDS];
        final int[] lengths = new int[MOST_ASKS];
        final int[] reads = new int[MOST_ASKS];
        final int[] writes = new int[MOST_ASKS];
        final int[] steps = new int[MOST_ASKS];
        final boolean[] isDone = new boolean[MOST_ASKS];
        final int[] stepsOfKinds = new int[KINDS];
        int outsideCalls;

        private final int[] kept = new int[ARGUMENTS];
        private final int[] markedValues = new int[KEYS];
        private final int[] stack = new int[STACK];
        private int markedId;
        private int latestId;
        private int top;
        private int now;
        private int first;
        private int second;

        void start(int[] begins, int[] keptNumbers, int id) {
            System.arraycopy(begins, 0, values, 0, KEYS);
            System.arraycopy(keptNumbers, 0, kept, 0, ARGUMENTS);
            Arrays.fill(stepsOfKinds, 0);
            for (int ask = 0; ask < MOST_ASKS; ask++) {
                isDone[ask] = false;
            }
            latestId = id;
            outsideCalls = 0;
        }

        void mark() {
            System.arraycopy(values, 0, markedValues, 0, KEYS);
            markedId = latestId;
        }

        void backToMark() {
            System.arraycopy(markedValues, 0, values, 0, KEYS);
            latestId = markedId;
        }

        boolean has(int ask, int field) {
            return isDone[ask] && field >= 0 && field < lengths[ask];
        }

        void obey(Script script, int ask, int kind, int a, int b) {
            now = ask;
            first = a;
            second = b;
            lengths[ask] = 0;
            reads[ask] = 0;
            writes[ask] = 0;
            steps[ask] = 0;
            top = 0;
            int at = 0;
            while (at < script.signs.length) {
                int sign = script.signs[at] & SIGN_MASK;
                int number = script.signs[at] >>> SIGN_BITS;
                at++;
                if (sign < PUT) {
                    work(sign, number);
                } else {
                    stepsOfKinds[kind] |= 1 << (number & STEP_MASK);
                    steps[ask]++;
                    int last = pop();
                    if (sign == WHEN) {
                        at = last != 0 ? at : Math.max(at, number >>> STEP_BITS);
                    } else if (sign == PUT) {
                        write(pop(), last);
                    } else {
                        answer(last);
                    }
                }
            }
            isDone[ask] = true;
        }

        private void work(int sign, int number) {
            switch (sign) {
                case NUMBER:
                    push(number);
                    break;
                case FIRST_NUMBER:
                    push(first);
                    break;
                case SECOND_NUMBER:
                    push(second);
                    break;
                case NEW_ID:
                    latestId++;
                    push(latestId);
                    break;
                case GET:
                    push(read(pop()));
                    break;
                case OUTSIDE:
                    outsideCalls++;
                    push(kept[pop() & (ARGUMENTS - 1)]);
                    break;
                default:
                    int right = pop();
                    push(join(sign, pop(), right));
                    break;
            }
        }

        private static int join(int sign, int left, int right) {
            switch (sign) {
                case PLUS:
                    return left + right;
                case MINUS:
                    return left - right;
                case TIMES:
                    return left * right;
                case LESS:
                    return left < right ? 1 : 0;
                default:
                    return left == right ? 1 : 0;
            }
        }

        private int read(int value) {
            int key = value & (KEYS - 1);
            reads[now] |= 1 << key;
            return values[key];
        }

        private void write(int where, int value) {
            int key = where & (KEYS - 1);
            writes[now] |= 1 << key;
            values[key] = value;
        }

        private void answer(int value) {
            if (lengths[now] < FIELDS) {
                answers[now * FIELDS + lengths[now]] = value;
                lengths[now]++;
            }
        }

        private void push(int value) {
            if (top < stack.length) {
                stack[top] = value;
                top++;
            }
        }

        private int pop() {
            if (top <= 0) {
                return 0;
            }
            top--;
            return stack[top];
        }
    }
}
