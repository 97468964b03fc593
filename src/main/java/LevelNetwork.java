/**
 * A network of level lines: heights carried from setup to setup over turning points, levels that
 * are not quite level and are tested for it, loops that must close, held benchmarks, and heights
 * that are adjusted by weights.
 *
 * <p>Everything that a call needs is made by the constructor and used again, so that no call makes
 * an object of its own, but for an exception.
 */
public final class LevelNetwork {
    public static final int TOLERANCE = 0, SIGHT = 1, BALANCE = 2;
    public static final int NONE = Integer.MIN_VALUE;
    public static final int NOT_FOUND = -1;
    public static final int BAD_VALUE = -2;
    public static final int FULL = -3;
    public static final int SYNTAX_ERROR = -11, RANGE_ERROR = -12, NAME_ERROR = -13, DUPLICATE_ERROR = -14, COUNT_ERROR = -15;

    private static final int MAX_LEVELS = 3;
    private static final int MAX_POINTS = 16;
    private static final int MAX_LINES = 20;
    private static final int MAX_TESTS = 6;
    private static final int MAX_SETUPS = 8;
    private static final int MAX_CHANGES = 8;
    private static final int MAX_BYTES = 1200;
    private static final int MAX_ROUNDS = 200;
    private static final int MAX_COLLIMATION = 200;
    private static final int MAX_HEIGHT = 9999999;
    private static final int FEED_BYTES = 20;
    private static final long NO_HEIGHT = Long.MIN_VALUE;

    /** The numbers of a setup, in the order of the face's parameter "what". */
    private static final int BACK = 0, FORE = 1, BACK_DISTANCE = 2, FORE_DISTANCE = 3, NUMBERS = 4;
    private static final int[] LEAST_NUMBER = {0, 0, 1, 1};
    private static final int[] GREATEST_NUMBER = {40000, 40000, 100, 100};

    private static final int SETTINGS = 3;
    private static final int[] LEAST_SETTING = {0, 1, 0};
    private static final int[] GREATEST_SETTING = {500, 100, 800};
    private static final int[] INITIAL_SETTING = {40, 60, 20};

    private final TextReader reader;
    private final Ways ways;
    private final Loops loops;
    private final Heights heights;
    private final History history;
    private Network net;
    /** What load reads into: a text with an error must leave the network alone. */
    private Network draft;
    private int errorAt;

    public LevelNetwork() {
        reader = new TextReader();
        ways = new Ways();
        loops = new Loops();
        heights = new Heights();
        history = new History();
        net = new Network();
        draft = new Network();
        errorAt = NOT_FOUND;
    }

    // ---- the text

    public int feed(int a, int b, int c, int d, int e) {
        if (reader.bytes + FEED_BYTES > MAX_BYTES) {
            return FULL;
        }
        reader.append(a);
        reader.append(b);
        reader.append(c);
        reader.append(d);
        reader.append(e);
        return reader.bytes;
    }

    public int load(int length) {
        if (length < 0 || length > reader.bytes) {
            return BAD_VALUE;
        }
        int result = reader.readText(draft, length);
        reader.bytes = 0;
        if (result < 0) {
            errorAt = reader.at;
            return result;
        }
        errorAt = NOT_FOUND;
        Network replaced = net;
        net = draft;
        draft = replaced;
        heights.settled = false;
        history.count = 0;
        return result;
    }

    public int errorPosition() {
        return errorAt;
    }

    // ---- what there is

    public int levelCount() {
        return net.levels;
    }

    public int pointCount() {
        return net.points;
    }

    public int lineCount() {
        return net.lines;
    }

    public int testCount() {
        return net.tests;
    }

    public int undoCount() {
        return history.count;
    }

    public int levelNamed(int letters) {
        return net.findLevel(letters);
    }

    public int pointNamed(int letters) {
        return net.findPoint(letters);
    }

    public int getSetting(int setting) {
        if (!isIndex(setting, SETTINGS)) {
            return BAD_VALUE;
        }
        return net.settings[setting];
    }

    public int collimation(int level) throws IndexOutOfBoundsException {
        needIndex(level, net.levels);
        return net.collimations[level];
    }

    public int testNumber(int test, int what) throws IndexOutOfBoundsException {
        needIndex(test, net.tests);
        switch (what) {
            case 0:
                return net.testLevels[test];
            case 1:
                return net.testResult(test);
            case 2:
                return net.testGap(test);
            default:
                return NONE;
        }
    }

    public int heldAt(int point) throws IndexOutOfBoundsException {
        needIndex(point, net.points);
        return net.held[point];
    }

    // ---- lines and their setups

    public int lineProperty(int line, int what) throws IndexOutOfBoundsException {
        needIndex(line, net.lines);
        switch (what) {
            case 0:
                return net.firsts[line];
            case 1:
                return net.seconds[line];
            case 2:
                return net.lineLevels[line];
            case 3:
                return net.setupCounts[line];
            case 4:
                return net.isActive(line) ? 1 : 0;
            case 5:
                return net.lineLength(line);
            case 6:
                return net.lineWeight(line);
            default:
                return BAD_VALUE;
        }
    }

    public int reading(int line, int setup, int what) throws IndexOutOfBoundsException {
        needIndex(line, net.lines);
        if (!net.hasSetup(line, setup)) {
            return NOT_FOUND;
        }
        if (!isIndex(what, NUMBERS)) {
            return BAD_VALUE;
        }
        return net.readings[net.place(line, setup) + what];
    }

    public int stepOf(int line, int setup) throws IndexOutOfBoundsException {
        needIndex(line, net.lines);
        if (!net.hasSetup(line, setup)) {
            return NONE;
        }
        return net.setupRise(line, setup);
    }

    public int riseOf(int line) throws IndexOutOfBoundsException {
        needIndex(line, net.lines);
        return net.lineRise(line);
    }

    public int collimationEffect(int line) throws IndexOutOfBoundsException {
        needIndex(line, net.lines);
        return -net.collimations[net.lineLevels[line]] * net.lineImbalance(line);
    }

    public int imbalance(int line) throws IndexOutOfBoundsException {
        needIndex(line, net.lines);
        return net.lineImbalance(line);
    }

    public int faultsOf(int line) throws IndexOutOfBoundsException {
        needIndex(line, net.lines);
        int faults = net.longSights(line);
        if (Math.abs(net.lineImbalance(line)) > net.settings[BALANCE]) {
            faults += 1000;
        }
        return faults;
    }

    public long turningHeight(int line, int setup) throws IndexOutOfBoundsException {
        needIndex(line, net.lines);
        if (!net.hasSetup(line, setup)) {
            return NO_HEIGHT;
        }
        heights.carry(net);
        long height = heights.provisional[net.firsts[line]];
        if (height == NO_HEIGHT) {
            return NO_HEIGHT;
        }
        for (int gone = 0; gone <= setup && gone < MAX_SETUPS; gone++) {
            height += net.setupRise(line, gone);
        }
        return height;
    }

    public int pairOf(int line) throws IndexOutOfBoundsException {
        needIndex(line, net.lines);
        return net.findPair(line);
    }

    public int discrepancy(int line) throws IndexOutOfBoundsException {
        needIndex(line, net.lines);
        int pair = net.findPair(line);
        if (pair == NOT_FOUND) {
            return NONE;
        }
        return net.lineRise(line) - net.riseFrom(pair, net.firsts[line]);
    }

    // ---- ways

    public int linesAt(int point) throws IndexOutOfBoundsException {
        needIndex(point, net.points);
        int found = 0;
        for (int line = 0; line < net.lines; line++) {
            if (net.across(net.active, line, point) != NOT_FOUND) {
                found |= 1 << line;
            }
        }
        return found;
    }

    public int rootOf(int point) throws IndexOutOfBoundsException {
        needIndex(point, net.points);
        loops.tree.grow(net, net.active);
        return loops.tree.roots[point];
    }

    public int partCount() {
        loops.tree.grow(net, net.active);
        return loops.tree.parts;
    }

    public int distance(int point, int other) throws IndexOutOfBoundsException {
        needIndex(point, net.points);
        needIndex(other, net.points);
        ways.measure(net, point);
        return ways.far[other];
    }

    public int riseBetween(int point, int other) throws IndexOutOfBoundsException {
        needIndex(point, net.points);
        needIndex(other, net.points);
        ways.trace(net, point, other);
        return ways.far[other] == NOT_FOUND ? NONE : ways.rise;
    }

    public int wayBetween(int point, int other) throws IndexOutOfBoundsException {
        needIndex(point, net.points);
        needIndex(other, net.points);
        ways.trace(net, point, other);
        return ways.lines;
    }

    public int bridges() {
        loops.find(net, net.active);
        // A line is in some closed way just when it is in one of the loops.
        int found = net.active;
        for (int loop = 0; loop < loops.count; loop++) {
            found &= ~loops.lineSets[loop];
        }
        return found;
    }

    // ---- loops

    public int treeLines() {
        loops.tree.grow(net, net.active);
        return loops.tree.branches;
    }

    public int loopCount() {
        return countLoops();
    }

    public int loopLine(int loop, int k) throws IndexOutOfBoundsException {
        needLoop(loop);
        loops.walk(net, loops.ownLines[loop]);
        if (!isIndex(k, loops.steps)) {
            return NOT_FOUND;
        }
        return loops.way[k];
    }

    public int loopLength(int loop) throws IndexOutOfBoundsException {
        needLoop(loop);
        return loops.lengths[loop];
    }

    public int misclosure(int loop) throws IndexOutOfBoundsException {
        needLoop(loop);
        return loops.misclosures[loop];
    }

    public int allowed(int loop) throws IndexOutOfBoundsException {
        needLoop(loop);
        return loops.limits[loop];
    }

    public int badLoops() {
        loops.find(net, net.active);
        return loops.badSet();
    }

    public int worstLoop() {
        loops.find(net, net.active);
        int worst = NOT_FOUND;
        int most = 0;
        for (int loop = 0; loop < loops.count; loop++) {
            if (loops.excess(loop) > most) {
                most = loops.excess(loop);
                worst = loop;
            }
        }
        return worst;
    }

    public int suspectLine() {
        loops.find(net, net.active);
        int suspect = NOT_FOUND;
        int most = 0;
        for (int line = 0; line < net.lines; line++) {
            int bad = loops.badOnly(line);
            if (bad > most) {
                most = bad;
                suspect = line;
            }
        }
        return suspect;
    }

    public int badWithout(int line) throws IndexOutOfBoundsException {
        needIndex(line, net.lines);
        loops.find(net, net.active & ~(1 << line));
        return Integer.bitCount(loops.badSet());
    }

    // ---- heights

    public int benchGap(int point, int other) throws IndexOutOfBoundsException {
        needIndex(point, net.points);
        needIndex(other, net.points);
        if (net.held[point] == NOT_FOUND || net.held[other] == NOT_FOUND) {
            return NONE;
        }
        ways.trace(net, point, other);
        if (ways.far[other] == NOT_FOUND) {
            return NONE;
        }
        return ways.rise - 100 * (net.held[other] - net.held[point]);
    }

    public long provisional(int point) throws IndexOutOfBoundsException {
        needIndex(point, net.points);
        heights.carry(net);
        return heights.provisional[point];
    }

    public int reached() {
        heights.carry(net);
        int found = 0;
        for (int point = 0; point < net.points; point++) {
            if (heights.provisional[point] != NO_HEIGHT) {
                found |= 1 << point;
            }
        }
        return found;
    }

    public boolean isAdjusted() {
        return heights.settled;
    }

    public long heightOf(int point) throws IndexOutOfBoundsException {
        needIndex(point, net.points);
        return heights.settledHeight(point);
    }

    public long residual(int line) throws IndexOutOfBoundsException {
        needIndex(line, net.lines);
        return heights.misfit(net, line);
    }

    public int worstLine() {
        int worst = NOT_FOUND;
        long most = -1;
        for (int line = 0; line < net.lines; line++) {
            long misfit = heights.misfit(net, line);
            int length = net.lineLength(line);
            if (misfit != NO_HEIGHT && length > 0) {
                long share = 1000 * Math.abs(misfit) / length;
                if (share > most) {
                    most = share;
                    worst = line;
                }
            }
        }
        return worst;
    }

    public int mostMoved() {
        heights.carry(net);
        int moved = NOT_FOUND;
        long most = -1;
        for (int point = 0; point < net.points; point++) {
            long height = heights.settledHeight(point);
            if (height != NO_HEIGHT) {
                long move = Math.abs(height - heights.provisional[point]);
                if (move > most) {
                    most = move;
                    moved = point;
                }
            }
        }
        return moved;
    }

    public long residualSum() {
        long sum = 0;
        for (int line = 0; line < net.lines; line++) {
            long misfit = heights.misfit(net, line);
            if (misfit != NO_HEIGHT) {
                sum += Math.abs(misfit) * net.lineWeight(line);
            }
        }
        return sum;
    }

    public int redundancy() {
        heights.carry(net);
        int difference = 0;
        for (int line = 0; line < net.lines; line++) {
            if (net.isActive(line)
                    && heights.provisional[net.firsts[line]] != NO_HEIGHT
                    && heights.provisional[net.seconds[line]] != NO_HEIGHT) {
                difference++;
            }
        }
        for (int point = 0; point < net.points; point++) {
            if (heights.provisional[point] != NO_HEIGHT && net.held[point] == NOT_FOUND) {
                difference--;
            }
        }
        return difference;
    }

    public int totalLength() {
        int total = 0;
        for (int line = 0; line < net.lines; line++) {
            if (net.isActive(line)) {
                total += net.lineLength(line);
            }
        }
        return total;
    }

    // ---- changes

    public int hold(int point, int height) {
        if (!isIndex(point, net.points)) {
            return NOT_FOUND;
        }
        if (height < 0 || height > MAX_HEIGHT) {
            return BAD_VALUE;
        }
        keepBefore(History.HELD, point, net.held[point]);
        net.held[point] = height;
        return net.countHeld();
    }

    public int release(int point) {
        if (!isIndex(point, net.points) || net.held[point] == NOT_FOUND) {
            return NOT_FOUND;
        }
        keepBefore(History.HELD, point, net.held[point]);
        net.held[point] = NOT_FOUND;
        return net.countHeld();
    }

    public int setReading(int line, int setup, int what, int value) {
        if (!isIndex(line, net.lines) || !net.hasSetup(line, setup)) {
            return NOT_FOUND;
        }
        if (!isIndex(what, NUMBERS) || !fits(what, value)) {
            return BAD_VALUE;
        }
        int place = net.place(line, setup) + what;
        int previous = net.readings[place];
        keepBefore(History.READING, place, previous);
        net.readings[place] = value;
        return previous;
    }

    public int addSetup(int line, int back, int fore, int backDistance, int foreDistance) {
        if (!isIndex(line, net.lines)) {
            return NOT_FOUND;
        }
        if (!fits(BACK, back) || !fits(FORE, fore)
                || !fits(BACK_DISTANCE, backDistance) || !fits(FORE_DISTANCE, foreDistance)) {
            return BAD_VALUE;
        }
        int setups = net.setupCounts[line];
        if (setups >= MAX_SETUPS) {
            return FULL;
        }
        keepBefore(History.SETUPS, line, setups);
        int place = net.place(line, setups);
        net.readings[place + BACK] = back;
        net.readings[place + FORE] = fore;
        net.readings[place + BACK_DISTANCE] = backDistance;
        net.readings[place + FORE_DISTANCE] = foreDistance;
        net.setupCounts[line] = setups + 1;
        return setups + 1;
    }

    public int setActive(int line, boolean active) {
        if (!isIndex(line, net.lines)) {
            return NOT_FOUND;
        }
        keepBefore(History.ACTIVE, line, net.active);
        if (active) {
            net.active |= 1 << line;
        } else {
            net.active &= ~(1 << line);
        }
        return countLoops();
    }

    public int setCollimation(int level, int collimation) {
        if (!isIndex(level, net.levels)
                || collimation < -MAX_COLLIMATION || collimation > MAX_COLLIMATION) {
            return NONE;
        }
        return changeCollimation(level, collimation);
    }

    public int applyTest(int test) {
        if (!isIndex(test, net.tests)) {
            return NONE;
        }
        int result = net.testResult(test);
        if (result == NONE) {
            return NONE;
        }
        return changeCollimation(net.testLevels[test], result);
    }

    public int adjust(int rounds) {
        if (rounds < 1 || rounds > MAX_ROUNDS) {
            return BAD_VALUE;
        }
        keepBefore(History.ADJUSTMENT, 0, 0);
        return heights.settle(net, rounds);
    }

    public int setSetting(int setting, int value) {
        if (!isIndex(setting, SETTINGS)
                || value < LEAST_SETTING[setting] || value > GREATEST_SETTING[setting]) {
            return BAD_VALUE;
        }
        int previous = net.settings[setting];
        keepBefore(History.SETTING, setting, previous);
        net.settings[setting] = value;
        return previous;
    }

    public int undo() {
        if (history.count == 0) {
            return NOT_FOUND;
        }
        history.takeBack(net, heights);
        return history.count;
    }

    // ---- what several calls share

    private int changeCollimation(int level, int collimation) {
        int previous = net.collimations[level];
        keepBefore(History.COLLIMATION, level, previous);
        net.collimations[level] = collimation;
        return previous;
    }

    private void keepBefore(int kind, int index, int before) {
        history.keep(kind, index, before, heights);
        heights.settled = false;
    }

    private int countLoops() {
        loops.tree.grow(net, net.active);
        return Integer.bitCount(net.active & ~loops.tree.branches);
    }

    private static boolean isIndex(int index, int count) {
        return index >= 0 && index < count;
    }

    private static void needIndex(int index, int count) {
        if (!isIndex(index, count)) {
            throw new IndexOutOfBoundsException("no such index");
        }
    }

    /** Finds the loops too: before that no index can be looked at. */
    private void needLoop(int loop) {
        loops.find(net, net.active);
        needIndex(loop, loops.count);
    }

    private static boolean fits(int what, int value) {
        return value >= LEAST_NUMBER[what] && value <= GREATEST_NUMBER[what];
    }

    /**
     * Levels, points, lines, tests and settings. A set of lines is an int with bit k for line k.
     * The methods take indexes that are valid; the face looks at them first.
     */
    private static final class Network {
        int levels;
        int points;
        int lines;
        int tests;
        /** The lines that are active. */
        int active;
        final int[] settings = new int[SETTINGS];
        final int[] levelNames = new int[MAX_LEVELS];
        final int[] collimations = new int[MAX_LEVELS];
        final int[] pointNames = new int[MAX_POINTS];
        /** NOT_FOUND for a point that is not held. */
        final int[] held = new int[MAX_POINTS];
        final int[] firsts = new int[MAX_LINES];
        final int[] seconds = new int[MAX_LINES];
        final int[] lineLevels = new int[MAX_LINES];
        final int[] setupCounts = new int[MAX_LINES];
        final int[] readings = new int[MAX_LINES * MAX_SETUPS * NUMBERS];
        final int[] testLevels = new int[MAX_TESTS];
        /** Of each test the first pair, then the second one, each in the order of a setup. */
        final int[] testReadings = new int[MAX_TESTS * 2 * NUMBERS];

        Network() {
            clear();
        }

        void clear() {
            levels = 0;
            points = 0;
            lines = 0;
            tests = 0;
            active = 0;
            for (int setting = 0; setting < SETTINGS; setting++) {
                settings[setting] = INITIAL_SETTING[setting];
            }
        }

        int findLevel(int name) {
            for (int level = 0; level < levels; level++) {
                if (levelNames[level] == name) {
                    return level;
                }
            }
            return NOT_FOUND;
        }

        int findPoint(int name) {
            for (int point = 0; point < points; point++) {
                if (pointNames[point] == name) {
                    return point;
                }
            }
            return NOT_FOUND;
        }

        int countHeld() {
            int count = 0;
            for (int point = 0; point < points; point++) {
                if (held[point] != NOT_FOUND) {
                    count++;
                }
            }
            return count;
        }

        boolean isActive(int line) {
            return (active >> line & 1) == 1;
        }

        boolean hasSetup(int line, int setup) {
            return isIndex(setup, setupCounts[line]);
        }

        int place(int line, int setup) {
            return (line * MAX_SETUPS + setup) * NUMBERS;
        }

        int setupRise(int line, int setup) {
            int place = place(line, setup);
            return 100 * (readings[place + BACK] - readings[place + FORE])
                    - collimations[lineLevels[line]]
                    * (readings[place + BACK_DISTANCE] - readings[place + FORE_DISTANCE]);
        }

        int lineRise(int line) {
            int rise = 0;
            for (int setup = 0; setup < setupCounts[line]; setup++) {
                rise += setupRise(line, setup);
            }
            return rise;
        }

        /** The rise of a line that is gone along from one of its points. */
        int riseFrom(int line, int point) {
            return firsts[line] == point ? lineRise(line) : -lineRise(line);
        }

        int lineLength(int line) {
            int length = 0;
            for (int setup = 0; setup < setupCounts[line]; setup++) {
                int place = place(line, setup);
                length += readings[place + BACK_DISTANCE] + readings[place + FORE_DISTANCE];
            }
            return length;
        }

        int lineWeight(int line) {
            int length = lineLength(line);
            return length > 0 ? 1000000 / length : 0;
        }

        int lineImbalance(int line) {
            int imbalance = 0;
            for (int setup = 0; setup < setupCounts[line]; setup++) {
                int place = place(line, setup);
                imbalance += readings[place + BACK_DISTANCE] - readings[place + FORE_DISTANCE];
            }
            return imbalance;
        }

        int longSights(int line) {
            int count = 0;
            for (int setup = 0; setup < setupCounts[line]; setup++) {
                int place = place(line, setup);
                if (readings[place + BACK_DISTANCE] > settings[SIGHT]) {
                    count++;
                }
                if (readings[place + FORE_DISTANCE] > settings[SIGHT]) {
                    count++;
                }
            }
            return count;
        }

        int findPair(int line) {
            for (int other = 0; other < lines; other++) {
                boolean same = firsts[other] == firsts[line] && seconds[other] == seconds[line];
                boolean turned = firsts[other] == seconds[line] && seconds[other] == firsts[line];
                if (other != line && (same || turned)) {
                    return other;
                }
            }
            return NOT_FOUND;
        }

        /** The point to which a line leads from a point; NOT_FOUND if it is no line of the set there. */
        int across(int set, int line, int point) {
            if ((set >> line & 1) == 0) {
                return NOT_FOUND;
            }
            if (firsts[line] == point) {
                return seconds[line];
            }
            return seconds[line] == point ? firsts[line] : NOT_FOUND;
        }

        int testGap(int test) {
            int first = test * 2 * NUMBERS;
            int second = first + NUMBERS;
            return (testReadings[first + BACK] - testReadings[first + FORE])
                    - (testReadings[second + BACK] - testReadings[second + FORE]);
        }

        int testResult(int test) {
            int first = test * 2 * NUMBERS;
            int second = first + NUMBERS;
            int divisor = (testReadings[first + BACK_DISTANCE] - testReadings[first + FORE_DISTANCE])
                    - (testReadings[second + BACK_DISTANCE] - testReadings[second + FORE_DISTANCE]);
            if (divisor == 0) {
                return NONE;
            }
            int result = 100 * testGap(test) / divisor;
            return result < -MAX_COLLIMATION || result > MAX_COLLIMATION ? NONE : result;
        }
    }

    /**
     * Keeps the bytes that are fed, and reads them into a network; where the text has an error, it
     * stays at the token that is wrong.
     */
    private static final class TextReader {
        private static final int END = 0, WORD = 1, INTEGER = 2, SEMICOLON = 3, OTHER = 4;
        private static final int MAX_LETTERS = 6;

        private static final char[] LEVEL_WORD = {'l', 'e', 'v', 'e', 'l'};
        private static final char[] DOWN_WORD = {'d', 'o', 'w', 'n'};
        private static final char[] POINT_WORD = {'p', 'o', 'i', 'n', 't'};
        private static final char[] LINE_WORD = {'l', 'i', 'n', 'e'};
        private static final char[] TEST_WORD = {'t', 'e', 's', 't'};
        private static final char[] SET_WORD = {'s', 'e', 't'};
        private static final char[] TOLERANCE_WORD = {'t', 'o', 'l', 'e', 'r', 'a', 'n', 'c', 'e'};
        private static final char[] SIGHT_WORD = {'s', 'i', 'g', 'h', 't'};
        private static final char[] BALANCE_WORD = {'b', 'a', 'l', 'a', 'n', 'c', 'e'};

        final byte[] text = new byte[MAX_BYTES];
        /** How many bytes were fed, and how many of them are read. */
        int bytes;
        int end;
        /** Where the token begins, and where the next one may begin. */
        int at;
        int next;
        int kind;
        /** The letters of a word, as the face gives names; of no use if it is too long for a name. */
        int letters;
        /** The value of an integer; beyond every range if it is long. */
        int value;
        int error;
        /** The settings that were given: bit k for setting k. */
        int given;

        /** Appends the four bytes of a number; the caller sees to it that there is room. */
        void append(int four) {
            for (int shift = 24; shift >= 0; shift -= 8) {
                text[bytes] = (byte) (four >> shift);
                bytes++;
            }
        }

        /** Returns the number of statements or the error code; so many bytes at least were fed. */
        int readText(Network net, int length) {
            end = length;
            next = 0;
            given = 0;
            net.clear();
            advance();
            for (int statements = 0; statements <= length; statements++) {
                if (kind == END) {
                    return statements;
                }
                if (!readStatement(net)) {
                    return error;
                }
                if (kind != SEMICOLON) {
                    return SYNTAX_ERROR;
                }
                advance();
            }
            return SYNTAX_ERROR;
        }

        private boolean readStatement(Network net) {
            if (isWord(LEVEL_WORD)) {
                return readLevel(net);
            }
            if (isWord(POINT_WORD)) {
                return readPoint(net);
            }
            if (isWord(LINE_WORD)) {
                return readLine(net);
            }
            if (isWord(TEST_WORD)) {
                return readTest(net);
            }
            return isWord(SET_WORD) ? readSetting(net) : fail(SYNTAX_ERROR);
        }

        private boolean readLevel(Network net) {
            if (net.levels >= MAX_LEVELS) {
                return fail(COUNT_ERROR);
            }
            advance();
            if (!isNewName(net)) {
                return false;
            }
            int name = letters;
            advance();
            if (!isIntegerIn(0, MAX_COLLIMATION)) {
                return false;
            }
            int collimation = value;
            advance();
            if (isWord(DOWN_WORD)) {
                collimation = -collimation;
                advance();
            }
            net.levelNames[net.levels] = name;
            net.collimations[net.levels] = collimation;
            net.levels++;
            return true;
        }

        private boolean readPoint(Network net) {
            if (net.points >= MAX_POINTS) {
                return fail(COUNT_ERROR);
            }
            advance();
            if (!isNewName(net)) {
                return false;
            }
            int name = letters;
            int height = NOT_FOUND;
            advance();
            if (kind == INTEGER) {
                if (!isIntegerIn(0, MAX_HEIGHT)) {
                    return false;
                }
                height = value;
                advance();
            }
            net.pointNames[net.points] = name;
            net.held[net.points] = height;
            net.points++;
            return true;
        }

        private boolean readLine(Network net) {
            int line = net.lines;
            if (line >= MAX_LINES) {
                return fail(COUNT_ERROR);
            }
            advance();
            if (!isKnownPoint(net)) {
                return false;
            }
            net.firsts[line] = net.findPoint(letters);
            advance();
            if (!isKnownPoint(net)) {
                return false;
            }
            net.seconds[line] = net.findPoint(letters);
            if (net.seconds[line] == net.firsts[line]) {
                return fail(DUPLICATE_ERROR);
            }
            advance();
            if (!isKnownLevel(net)) {
                return false;
            }
            net.lineLevels[line] = net.findLevel(letters);
            advance();
            net.lines++;
            net.active |= 1 << line;
            for (int setup = 0; setup < MAX_SETUPS; setup++) {
                if (setup > 0 && kind != INTEGER) {
                    return true;
                }
                if (!readFour(net.readings, net.place(line, setup))) {
                    return false;
                }
                net.setupCounts[line] = setup + 1;
            }
            if (kind != INTEGER) {
                return true;
            }
            // Of a ninth setup, that its first integer is out of range comes before that it is one too many.
            return isIntegerIn(LEAST_NUMBER[BACK], GREATEST_NUMBER[BACK]) && fail(COUNT_ERROR);
        }

        private boolean readTest(Network net) {
            int test = net.tests;
            if (test >= MAX_TESTS) {
                return fail(COUNT_ERROR);
            }
            advance();
            if (!isKnownLevel(net)) {
                return false;
            }
            net.testLevels[test] = net.findLevel(letters);
            advance();
            int place = test * 2 * NUMBERS;
            if (!readFour(net.testReadings, place)
                    || !readFour(net.testReadings, place + NUMBERS)) {
                return false;
            }
            net.tests++;
            return true;
        }

        private boolean readSetting(Network net) {
            advance();
            int setting = NOT_FOUND;
            if (isWord(TOLERANCE_WORD)) {
                setting = TOLERANCE;
            } else if (isWord(SIGHT_WORD)) {
                setting = SIGHT;
            } else if (isWord(BALANCE_WORD)) {
                setting = BALANCE;
            }
            if (setting == NOT_FOUND) {
                return fail(SYNTAX_ERROR);
            }
            if ((given >> setting & 1) == 1) {
                return fail(DUPLICATE_ERROR);
            }
            given |= 1 << setting;
            advance();
            if (!isIntegerIn(LEAST_SETTING[setting], GREATEST_SETTING[setting])) {
                return false;
            }
            net.settings[setting] = value;
            advance();
            return true;
        }

        /** Reads two readings and their distances; the row goes on for four from the place. */
        private boolean readFour(int[] row, int place) {
            for (int what = 0; what < NUMBERS; what++) {
                if (!isIntegerIn(LEAST_NUMBER[what], GREATEST_NUMBER[what])) {
                    return false;
                }
                row[place + what] = value;
                advance();
            }
            return true;
        }

        private boolean isNewName(Network net) {
            if (!isName()) {
                return fail(SYNTAX_ERROR);
            }
            if (net.findLevel(letters) != NOT_FOUND || net.findPoint(letters) != NOT_FOUND) {
                return fail(DUPLICATE_ERROR);
            }
            return true;
        }

        private boolean isKnownPoint(Network net) {
            if (!isName()) {
                return fail(SYNTAX_ERROR);
            }
            return net.findPoint(letters) != NOT_FOUND || fail(NAME_ERROR);
        }

        private boolean isKnownLevel(Network net) {
            if (!isName()) {
                return fail(SYNTAX_ERROR);
            }
            return net.findLevel(letters) != NOT_FOUND || fail(NAME_ERROR);
        }

        private boolean isIntegerIn(int least, int greatest) {
            if (kind != INTEGER) {
                return fail(SYNTAX_ERROR);
            }
            return value >= least && value <= greatest || fail(RANGE_ERROR);
        }

        private boolean isName() {
            return kind == WORD && next - at <= MAX_LETTERS
                    && !isWord(LEVEL_WORD) && !isWord(DOWN_WORD) && !isWord(POINT_WORD) && !isWord(LINE_WORD)
                    && !isWord(TEST_WORD) && !isWord(SET_WORD) && !isWord(SIGHT_WORD);
        }

        private boolean isWord(char[] word) {
            if (kind != WORD || next - at != word.length) {
                return false;
            }
            for (int k = 0; k < word.length; k++) {
                if (text[at + k] != word[k]) {
                    return false;
                }
            }
            return true;
        }

        /** Notes the error of the token that is looked at; answers false always. */
        private boolean fail(int code) {
            error = code;
            return false;
        }

        private void advance() {
            at = next;
            while (at < end && (text[at] == ' ' || text[at] == '\n')) {
                at++;
            }
            next = at;
            if (at >= end) {
                kind = END;
            } else if (text[at] >= 'a' && text[at] <= 'z') {
                scanWord();
            } else if (text[at] >= '0' && text[at] <= '9') {
                scanInteger();
            } else {
                kind = text[at] == ';' ? SEMICOLON : OTHER;
                next++;
            }
        }

        private void scanWord() {
            kind = WORD;
            letters = 0;
            while (next < end && text[next] >= 'a' && text[next] <= 'z') {
                int letter = next - at;
                if (letter < MAX_LETTERS) {
                    letters |= (text[next] - 'a' + 1) << (5 * (MAX_LETTERS - 1 - letter));
                }
                next++;
            }
        }

        private void scanInteger() {
            kind = INTEGER;
            value = 0;
            while (next < end && text[next] >= '0' && text[next] <= '9') {
                if (value <= MAX_HEIGHT) {
                    value = 10 * value + (text[next] - '0');
                }
                next++;
            }
        }
    }

    /** The shortest ways from a point. */
    private static final class Ways {
        /** The distance of each point; NOT_FOUND where no way leads. */
        final int[] far = new int[MAX_POINTS];
        final int[] lengths = new int[MAX_LINES];
        /** The lines of the way that was traced last, and the rise along it. */
        int lines;
        int rise;

        void measure(Network net, int from) {
            for (int point = 0; point < net.points; point++) {
                far[point] = NOT_FOUND;
            }
            for (int line = 0; line < net.lines; line++) {
                lengths[line] = net.lineLength(line);
            }
            far[from] = 0;
            boolean changed = true;
            // A shortest way has fewer lines than there are points.
            for (int round = 0; round < net.points && changed; round++) {
                changed = shortenAll(net);
            }
        }

        private boolean shortenAll(Network net) {
            boolean changed = false;
            for (int line = 0; line < net.lines; line++) {
                if (net.isActive(line)) {
                    int first = net.firsts[line];
                    int second = net.seconds[line];
                    boolean forward = shorten(first, second, lengths[line]);
                    boolean backward = shorten(second, first, lengths[line]);
                    changed = changed || forward || backward;
                }
            }
            return changed;
        }

        private boolean shorten(int near, int beyond, int length) {
            if (far[near] == NOT_FOUND) {
                return false;
            }
            int sum = far[near] + length;
            if (far[beyond] != NOT_FOUND && far[beyond] <= sum) {
                return false;
            }
            far[beyond] = sum;
            return true;
        }

        void trace(Network net, int from, int to) {
            measure(net, from);
            lines = 0;
            rise = 0;
            if (far[to] == NOT_FOUND) {
                return;
            }
            int here = to;
            for (int step = 0; step < net.points && here != from; step++) {
                int line = lineBack(net, here);
                if (line == NOT_FOUND) {
                    return;
                }
                here = net.across(net.active, line, here);
                lines |= 1 << line;
                rise += net.riseFrom(line, here);
            }
        }

        private int lineBack(Network net, int here) {
            for (int line = 0; line < net.lines; line++) {
                int before = net.across(net.active, line, here);
                if (before != NOT_FOUND && far[before] != NOT_FOUND
                        && far[before] == far[here] - lengths[line]) {
                    return line;
                }
            }
            return NOT_FOUND;
        }
    }

    /** The tree lines among a set of lines; each part of the network has a tree of its own. */
    private static final class Tree {
        /** The lowest point of each point's part. */
        final int[] roots = new int[MAX_POINTS];
        /** Towards the root: the line, the point to which it leads; how many lines there are. */
        final int[] upLines = new int[MAX_POINTS];
        final int[] upPoints = new int[MAX_POINTS];
        final int[] depths = new int[MAX_POINTS];
        final int[] queue = new int[MAX_POINTS];
        int branches;
        int parts;

        void grow(Network net, int set) {
            branches = 0;
            parts = 0;
            for (int point = 0; point < net.points; point++) {
                roots[point] = NOT_FOUND;
            }
            for (int point = 0; point < net.points; point++) {
                if (roots[point] == NOT_FOUND) {
                    parts++;
                    spread(net, set, point);
                }
            }
        }

        private void spread(Network net, int set, int root) {
            roots[root] = root;
            upLines[root] = NOT_FOUND;
            upPoints[root] = root;
            depths[root] = 0;
            queue[0] = root;
            int queued = 1;
            for (int taken = 0; taken < net.points && taken < queued; taken++) {
                int point = queue[taken];
                for (int line = 0; line < net.lines; line++) {
                    int other = net.across(set, line, point);
                    if (other != NOT_FOUND && roots[other] == NOT_FOUND && queued < MAX_POINTS) {
                        branches |= 1 << line;
                        roots[other] = root;
                        upLines[other] = line;
                        upPoints[other] = point;
                        depths[other] = depths[point] + 1;
                        queue[queued] = other;
                        queued++;
                    }
                }
            }
        }
    }

    /** The loops that a set of lines makes. */
    private static final class Loops {
        /** What a step of a way has added to its line if it goes to the line's first point. */
        private static final int TURNED = 100;

        final Tree tree = new Tree();
        int count;
        final int[] ownLines = new int[MAX_LINES];
        final int[] lineSets = new int[MAX_LINES];
        final int[] lengths = new int[MAX_LINES];
        final int[] misclosures = new int[MAX_LINES];
        final int[] limits = new int[MAX_LINES];
        /** The way of the loop that was walked last. */
        final int[] way = new int[MAX_POINTS + 1];
        int steps;
        /** The end of that way, backwards. */
        final int[] rest = new int[MAX_POINTS];

        void find(Network net, int set) {
            tree.grow(net, set);
            count = 0;
            int owners = set & ~tree.branches;
            for (int line = 0; line < net.lines; line++) {
                if ((owners >> line & 1) == 1) {
                    ownLines[count] = line;
                    walk(net, line);
                    measureWay(net, count);
                    count++;
                }
            }
        }

        /** Puts the loop of a line into the way: the line, then tree lines back to its first point. */
        void walk(Network net, int own) {
            way[0] = own;
            steps = 1;
            int resting = 0;
            int here = net.seconds[own];
            int goal = net.firsts[own];
            // Both are in one tree: each climb of the deeper one brings them a line nearer to where
            // their ways up meet, at the latest at the root, which alone has no line up.
            for (int climb = 0; climb < MAX_POINTS && here != goal; climb++) {
                boolean fromHere = tree.depths[here] >= tree.depths[goal];
                int low = fromHere ? here : goal;
                int up = tree.upPoints[low];
                int line = tree.upLines[low];
                if (line == NOT_FOUND) {
                    break;
                }
                if (fromHere) {
                    way[steps] = stepFrom(net, line, here);
                    steps++;
                    here = up;
                } else {
                    rest[resting] = stepFrom(net, line, up);
                    resting++;
                    goal = up;
                }
            }
            for (int k = resting - 1; k >= 0; k--) {
                way[steps] = rest[k];
                steps++;
            }
        }

        private int stepFrom(Network net, int line, int point) {
            return net.firsts[line] == point ? line : line + TURNED;
        }

        private void measureWay(Network net, int loop) {
            int set = 0;
            int length = 0;
            int misclosure = 0;
            for (int k = 0; k < steps; k++) {
                boolean turned = way[k] >= TURNED;
                int line = turned ? way[k] - TURNED : way[k];
                set |= 1 << line;
                length += net.lineLength(line);
                misclosure += turned ? -net.lineRise(line) : net.lineRise(line);
            }
            long tolerance = net.settings[TOLERANCE];
            lineSets[loop] = set;
            lengths[loop] = length;
            misclosures[loop] = misclosure;
            limits[loop] = rootOfSquare(10 * tolerance * tolerance * length);
        }

        /** The square root rounded down; 10 * 500 * 500 * 16 lines of 1600 metres is below 2 to the 36th. */
        private static int rootOfSquare(long square) {
            int root = 0;
            for (int bit = 1 << 18; bit > 0; bit >>= 1) {
                long more = root + bit;
                if (more * more <= square) {
                    root += bit;
                }
            }
            return root;
        }

        /** By how much a loop's misclosure exceeds what is allowed; it is bad if this is above 0. */
        int excess(int loop) {
            return Math.abs(misclosures[loop]) - limits[loop];
        }

        int badSet() {
            int bad = 0;
            for (int loop = 0; loop < count; loop++) {
                if (excess(loop) > 0) {
                    bad |= 1 << loop;
                }
            }
            return bad;
        }

        /** In how many bad loops a line is; 0 if it is in a good one too. */
        int badOnly(int line) {
            int bad = 0;
            for (int loop = 0; loop < count; loop++) {
                if ((lineSets[loop] >> line & 1) == 1) {
                    if (excess(loop) <= 0) {
                        return 0;
                    }
                    bad++;
                }
            }
            return bad;
        }
    }

    /** Provisional heights, carried anew for each call that needs them, and adjusted ones, kept. */
    private static final class Heights {
        final long[] provisional = new long[MAX_POINTS];
        final long[] adjusted = new long[MAX_POINTS];
        /** Whether there are adjusted heights. */
        boolean settled;
        final int[] queue = new int[MAX_POINTS];
        /** The active lines of each point, from its start to the next point's. */
        final int[] starts = new int[MAX_POINTS + 1];
        final int[] others = new int[2 * MAX_LINES];
        final int[] rises = new int[2 * MAX_LINES];
        final int[] weights = new int[2 * MAX_LINES];

        void carry(Network net) {
            int queued = 0;
            for (int point = 0; point < net.points; point++) {
                provisional[point] = NO_HEIGHT;
                if (net.held[point] != NOT_FOUND) {
                    provisional[point] = 100L * net.held[point];
                    queue[queued] = point;
                    queued++;
                }
            }
            for (int taken = 0; taken < net.points && taken < queued; taken++) {
                int point = queue[taken];
                for (int line = 0; line < net.lines; line++) {
                    int other = net.across(net.active, line, point);
                    if (other != NOT_FOUND && provisional[other] == NO_HEIGHT && queued < MAX_POINTS) {
                        provisional[other] = provisional[point] + net.riseFrom(line, point);
                        queue[queued] = other;
                        queued++;
                    }
                }
            }
        }

        /** Returns the number of rounds. */
        int settle(Network net, int rounds) {
            carry(net);
            System.arraycopy(provisional, 0, adjusted, 0, MAX_POINTS);
            settled = true;
            gatherLines(net);
            int round = 0;
            boolean changed = true;
            while (round < rounds && changed) {
                changed = settleOnce(net);
                round++;
            }
            return round;
        }

        private void gatherLines(Network net) {
            int count = 0;
            for (int point = 0; point < net.points; point++) {
                starts[point] = count;
                for (int line = 0; line < net.lines; line++) {
                    int other = net.across(net.active, line, point);
                    if (other != NOT_FOUND) {
                        others[count] = other;
                        rises[count] = net.riseFrom(line, other);
                        weights[count] = net.lineWeight(line);
                        count++;
                    }
                }
            }
            starts[net.points] = count;
        }

        private boolean settleOnce(Network net) {
            boolean changed = false;
            for (int point = 0; point < net.points; point++) {
                if (adjusted[point] != NO_HEIGHT && net.held[point] == NOT_FOUND) {
                    long mean = weightedMean(point);
                    changed = changed || mean != adjusted[point];
                    adjusted[point] = mean;
                }
            }
            return changed;
        }

        private long weightedMean(int point) {
            long sum = 0;
            long weight = 0;
            for (int k = starts[point]; k < starts[point + 1]; k++) {
                sum += weights[k] * (adjusted[others[k]] + rises[k]);
                weight += weights[k];
            }
            return weight > 0 ? Math.floorDiv(2 * sum + weight, 2 * weight) : adjusted[point];
        }

        long settledHeight(int point) {
            return settled ? adjusted[point] : NO_HEIGHT;
        }

        /** The residual of a line; NO_HEIGHT if it has none. */
        long misfit(Network net, int line) {
            long first = settledHeight(net.firsts[line]);
            long second = settledHeight(net.seconds[line]);
            if (!net.isActive(line) || first == NO_HEIGHT || second == NO_HEIGHT) {
                return NO_HEIGHT;
            }
            return second - first - net.lineRise(line);
        }
    }

    /** The latest changes, each with what it changed and the adjusted heights before it. */
    private static final class History {
        static final int HELD = 0, READING = 1, SETUPS = 2, ACTIVE = 3, COLLIMATION = 4, SETTING = 5, ADJUSTMENT = 6;

        int count;
        int oldest;
        final int[] kinds = new int[MAX_CHANGES];
        final int[] indexes = new int[MAX_CHANGES];
        final int[] befores = new int[MAX_CHANGES];
        final boolean[] settled = new boolean[MAX_CHANGES];
        final long[] adjusted = new long[MAX_CHANGES * MAX_POINTS];

        void keep(int kind, int index, int before, Heights heights) {
            if (count == MAX_CHANGES) {
                oldest = (oldest + 1) % MAX_CHANGES;
                count--;
            }
            int slot = (oldest + count) % MAX_CHANGES;
            kinds[slot] = kind;
            indexes[slot] = index;
            befores[slot] = before;
            settled[slot] = heights.settled;
            System.arraycopy(heights.adjusted, 0, adjusted, slot * MAX_POINTS, MAX_POINTS);
            count++;
        }

        /** Takes the latest change back; there is one. */
        void takeBack(Network net, Heights heights) {
            count--;
            int slot = (oldest + count) % MAX_CHANGES;
            heights.settled = settled[slot];
            System.arraycopy(adjusted, slot * MAX_POINTS, heights.adjusted, 0, MAX_POINTS);
            int index = indexes[slot];
            int before = befores[slot];
            switch (kinds[slot]) {
                case HELD:
                    net.held[index] = before;
                    break;
                case READING:
                    net.readings[index] = before;
                    break;
                case SETUPS:
                    net.setupCounts[index] = before;
                    break;
                case ACTIVE:
                    net.active = before;
                    break;
                case COLLIMATION:
                    net.collimations[index] = before;
                    break;
                case SETTING:
                    net.settings[index] = before;
                    break;
                default:
                    break;
            }
        }
    }
}
