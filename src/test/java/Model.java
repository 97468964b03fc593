import java.math.BigInteger;
import java.util.ArrayDeque;
import java.util.ArrayList;
import java.util.Collections;
import java.util.HashSet;
import java.util.LinkedHashMap;
import java.util.List;
import java.util.Map;
import java.util.Set;
import java.util.regex.Matcher;
import java.util.regex.Pattern;

/**
 * The document once more, slowly and by other means: texts are matched, states are copied, ways are
 * searched for by recursion. ModelTest holds the class against it; its methods bear the same names.
 */
final class Model {
    private static final int NONE = Integer.MIN_VALUE;
    private static final int[][] SETTING = {{0, 500, 40}, {1, 100, 60}, {0, 800, 20}};
    private static final int[][] NUMBER = {{0, 40000}, {0, 40000}, {1, 100}, {1, 100}};

    /** A line, a level's test too: then it has no points and two setups, its pairs. */
    private static final class Line {
        int first;
        int second;
        int level;
        boolean active = true;
        final List<int[]> setups = new ArrayList<>();

        Line copy() {
            Line line = new Line();
            line.first = first;
            line.second = second;
            line.level = level;
            line.active = active;
            for (int[] setup : setups) {
                line.setups.add(setup.clone());
            }
            return line;
        }
    }

    private static final class State {
        final Map<String, Integer> levelNames = new LinkedHashMap<>();
        final Map<String, Integer> pointNames = new LinkedHashMap<>();
        final List<Integer> collimations = new ArrayList<>();
        final List<Integer> held = new ArrayList<>();
        final List<Line> lines = new ArrayList<>();
        final List<Line> tests = new ArrayList<>();
        final int[] settings = {SETTING[0][2], SETTING[1][2], SETTING[2][2]};
        List<BigInteger> adjusted;

        State copy() {
            State state = new State();
            state.levelNames.putAll(levelNames);
            state.pointNames.putAll(pointNames);
            state.collimations.addAll(collimations);
            state.held.addAll(held);
            for (Line line : lines) {
                state.lines.add(line.copy());
            }
            state.tests.addAll(tests);
            System.arraycopy(settings, 0, state.settings, 0, 3);
            state.adjusted = adjusted == null ? null : new ArrayList<>(adjusted);
            return state;
        }
    }

    private static final class TextError extends RuntimeException {
        private static final long serialVersionUID = 1;
        final int code;

        TextError(int code) {
            this.code = code;
        }
    }

    private State state = new State();
    private final List<State> kept = new ArrayList<>();
    private final StringBuilder buffer = new StringBuilder();
    private int errorAt = -1;

    // ---- the text

    int feed(int a, int b, int c, int d, int e) {
        if (buffer.length() > 1180) {
            return -3;
        }
        for (int four : new int[] {a, b, c, d, e}) {
            for (byte one : java.nio.ByteBuffer.allocate(4).putInt(four).array()) {
                buffer.append((char) (one & 255));
            }
        }
        return buffer.length();
    }

    int load(int length) {
        if (length < 0 || length > buffer.length()) {
            return -2;
        }
        Text text = new Text(buffer.substring(0, length));
        buffer.setLength(0);
        try {
            int statements = text.all();
            state = text.read;
            kept.clear();
            errorAt = -1;
            return statements;
        } catch (TextError error) {
            errorAt = text.position();
            return error.code;
        }
    }

    /** The tokens of a text, and what they say. */
    private static final class Text {
        final State read = new State();
        final List<String> tokens = new ArrayList<>();
        final List<Integer> places = new ArrayList<>();
        final Set<String> given = new HashSet<>();
        int now = 0;

        Text(String text) {
            Matcher matcher = Pattern.compile("[a-z]+|[0-9]+|[^ \n]").matcher(text);
            while (matcher.find()) {
                tokens.add(matcher.group());
                places.add(matcher.start());
            }
            tokens.add("");
            places.add(text.length());
        }

        int position() {
            return places.get(now);
        }

        String token() {
            return tokens.get(now);
        }

        void need(boolean fine, int code) {
            if (!fine) {
                throw new TextError(code);
            }
        }

        int all() {
            int statements = 0;
            while (!token().isEmpty()) {
                String word = token();
                need(word.matches("level|point|line|test|set"), -11);
                if (word.equals("level")) {
                    level();
                } else if (word.equals("point")) {
                    point();
                } else if (word.equals("line")) {
                    line();
                } else if (word.equals("test")) {
                    test();
                } else {
                    set();
                }
                need(token().equals(";"), -11);
                now++;
                statements++;
            }
            return statements;
        }

        String name() {
            need(token().matches("[a-z]{1,6}") && !token().matches("level|down|point|line|test|set|sight"), -11);
            return token();
        }

        int number(int least, int greatest) {
            need(token().matches("[0-9]+"), -11);
            BigInteger value = new BigInteger(token());
            need(value.compareTo(BigInteger.valueOf(least)) >= 0, -12);
            need(value.compareTo(BigInteger.valueOf(greatest)) <= 0, -12);
            return value.intValue();
        }

        int take(int least, int greatest) {
            int value = number(least, greatest);
            now++;
            return value;
        }

        String newName() {
            String name = name();
            need(!read.levelNames.containsKey(name) && !read.pointNames.containsKey(name), -14);
            now++;
            return name;
        }

        int known(Map<String, Integer> names) {
            String name = name();
            need(names.containsKey(name), -13);
            return names.get(name);
        }

        void level() {
            need(read.collimations.size() < 3, -15);
            now++;
            read.levelNames.put(newName(), read.collimations.size());
            int collimation = take(0, 200);
            if (token().equals("down")) {
                collimation = -collimation;
                now++;
            }
            read.collimations.add(collimation);
        }

        void point() {
            need(read.held.size() < 16, -15);
            now++;
            read.pointNames.put(newName(), read.held.size());
            read.held.add(token().matches("[0-9]+") ? Integer.valueOf(take(0, 9999999)) : null);
        }

        int[] four() {
            int[] four = new int[4];
            for (int k = 0; k < 4; k++) {
                four[k] = take(NUMBER[k][0], NUMBER[k][1]);
            }
            return four;
        }

        void line() {
            need(read.lines.size() < 20, -15);
            now++;
            Line line = new Line();
            line.first = known(read.pointNames);
            now++;
            line.second = known(read.pointNames);
            need(line.first != line.second, -14);
            now++;
            line.level = known(read.levelNames);
            now++;
            do {
                if (line.setups.size() == 8) {
                    number(0, 40000);
                    need(false, -15);
                }
                line.setups.add(four());
            } while (token().matches("[0-9]+"));
            read.lines.add(line);
        }

        void test() {
            need(read.tests.size() < 6, -15);
            now++;
            Line test = new Line();
            test.level = known(read.levelNames);
            now++;
            test.setups.add(four());
            test.setups.add(four());
            read.tests.add(test);
        }

        void set() {
            now++;
            int setting = List.of("tolerance", "sight", "balance").indexOf(token());
            need(setting >= 0, -11);
            need(given.add(token()), -14);
            now++;
            read.settings[setting] = take(SETTING[setting][0], SETTING[setting][1]);
        }
    }

    int errorPosition() {
        return errorAt;
    }

    // ---- what there is

    int levelCount() {
        return state.collimations.size();
    }

    int pointCount() {
        return state.held.size();
    }

    int lineCount() {
        return state.lines.size();
    }

    int testCount() {
        return state.tests.size();
    }

    int undoCount() {
        return kept.size();
    }

    int levelNamed(int letters) {
        return named(state.levelNames, letters);
    }

    int pointNamed(int letters) {
        return named(state.pointNames, letters);
    }

    private static int named(Map<String, Integer> names, int letters) {
        for (Map.Entry<String, Integer> one : names.entrySet()) {
            StringBuilder bits = new StringBuilder();
            for (char letter : String.format("%-6s", one.getKey()).toCharArray()) {
                int number = letter == ' ' ? 0 : letter - 96;
                bits.append(String.format("%5s", Integer.toBinaryString(number)).replace(' ', '0'));
            }
            if (Integer.parseInt(bits.toString(), 2) == letters) {
                return one.getValue();
            }
        }
        return -1;
    }

    int getSetting(int setting) {
        return setting < 0 || setting > 2 ? -2 : state.settings[setting];
    }

    int collimation(int level) {
        return state.collimations.get(index(level, state.collimations));
    }

    private static int index(int index, List<?> list) {
        if (index < 0 || index >= list.size()) {
            throw new IndexOutOfBoundsException();
        }
        return index;
    }

    private Line line(int line) {
        return state.lines.get(index(line, state.lines));
    }

    private void points(int point, int other) {
        index(point, state.held);
        index(other, state.held);
    }

    int testNumber(int test, int what) {
        Line one = state.tests.get(index(test, state.tests));
        int[] p = one.setups.get(0);
        int[] q = one.setups.get(1);
        int readings = (p[0] - p[1]) - (q[0] - q[1]);
        int distances = (p[2] - p[3]) - (q[2] - q[3]);
        if (what == 0) {
            return one.level;
        }
        if (what == 1 && distances != 0) {
            BigInteger result = BigInteger.valueOf(100L * readings).divide(BigInteger.valueOf(distances));
            return Math.abs(result.intValue()) > 200 ? NONE : result.intValue();
        }
        return what == 2 ? readings : NONE;
    }

    int heldAt(int point) {
        Integer height = state.held.get(index(point, state.held));
        return height == null ? -1 : height;
    }

    // ---- lines

    int lineProperty(int line, int what) {
        Line one = line(line);
        int[] all = {one.first, one.second, one.level, one.setups.size(), one.active ? 1 : 0, length(one),
            1000000 / length(one)};
        return what < 0 || what > 6 ? -2 : all[what];
    }

    private static int length(Line line) {
        return line.setups.stream().mapToInt(s -> s[2] + s[3]).sum();
    }

    private static boolean has(Line line, int setup) {
        return setup >= 0 && setup < line.setups.size();
    }

    int reading(int line, int setup, int what) {
        if (!has(line(line), setup)) {
            return -1;
        }
        return what < 0 || what > 3 ? -2 : line(line).setups.get(setup)[what];
    }

    private int step(Line line, int[] s, int collimation) {
        return 100 * (s[0] - s[1]) - collimation * (s[2] - s[3]);
    }

    private int rise(Line line) {
        return rise(line, state.collimations.get(line.level));
    }

    private int rise(Line line, int collimation) {
        return line.setups.stream().mapToInt(s -> step(line, s, collimation)).sum();
    }

    int stepOf(int line, int setup) {
        Line one = line(line);
        return has(one, setup) ? step(one, one.setups.get(setup), state.collimations.get(one.level)) : NONE;
    }

    int riseOf(int line) {
        return rise(line(line));
    }

    int collimationEffect(int line) {
        return rise(line(line)) - rise(line(line), 0);
    }

    int imbalance(int line) {
        return line(line).setups.stream().mapToInt(s -> s[2] - s[3]).sum();
    }

    int faultsOf(int line) {
        int faults = Math.abs(imbalance(line)) > state.settings[2] ? 1000 : 0;
        for (int[] setup : line(line).setups) {
            faults += setup[2] > state.settings[1] ? 1 : 0;
            faults += setup[3] > state.settings[1] ? 1 : 0;
        }
        return faults;
    }

    long turningHeight(int line, int setup) {
        Line one = line(line);
        long height = provisional(one.first);
        if (!has(one, setup) || height == Long.MIN_VALUE) {
            return Long.MIN_VALUE;
        }
        for (int[] s : one.setups.subList(0, setup + 1)) {
            height += step(one, s, state.collimations.get(one.level));
        }
        return height;
    }

    int pairOf(int line) {
        Set<Integer> ends = Set.of(line(line).first, line(line).second);
        for (int other = 0; other < state.lines.size(); other++) {
            if (other != line && Set.of(line(other).first, line(other).second).equals(ends)) {
                return other;
            }
        }
        return -1;
    }

    int discrepancy(int line) {
        int pair = pairOf(line);
        if (pair < 0) {
            return NONE;
        }
        int sign = line(pair).first == line(line).first ? 1 : -1;
        return rise(line(line)) - sign * rise(line(pair));
    }

    // ---- ways: the lines in use are given as a list of indexes

    private List<Integer> active() {
        List<Integer> all = new ArrayList<>();
        for (int line = 0; line < state.lines.size(); line++) {
            if (line(line).active) {
                all.add(line);
            }
        }
        return all;
    }

    private List<Integer> activeAt(List<Integer> use, int point) {
        List<Integer> all = new ArrayList<>(use);
        all.removeIf(line -> line(line).first != point && line(line).second != point);
        return all;
    }

    private int over(int line, int point) {
        return line(line).first == point ? line(line).second : line(line).first;
    }

    private int gone(int line, int from) {
        return line(line).first == from ? rise(line(line)) : -rise(line(line));
    }

    private static int bits(Iterable<Integer> all) {
        int bits = 0;
        for (int one : all) {
            bits += 1 << one;
        }
        return bits;
    }

    int linesAt(int point) {
        index(point, state.held);
        return bits(activeAt(active(), point));
    }

    private Set<Integer> part(List<Integer> use, int point) {
        Set<Integer> found = new HashSet<>();
        flood(use, point, found);
        return found;
    }

    private void flood(List<Integer> use, int point, Set<Integer> found) {
        if (found.add(point)) {
            for (int line : activeAt(use, point)) {
                flood(use, over(line, point), found);
            }
        }
    }

    int rootOf(int point) {
        index(point, state.held);
        return Collections.min(part(active(), point));
    }

    int partCount() {
        Set<Integer> roots = new HashSet<>();
        for (int point = 0; point < state.held.size(); point++) {
            roots.add(rootOf(point));
        }
        return roots.size();
    }

    private static final int FAR = 100000000;

    private int[][] distances() {
        int points = state.held.size();
        int[][] far = new int[points][points];
        for (int p = 0; p < points; p++) {
            for (int q = 0; q < points; q++) {
                far[p][q] = p == q ? 0 : FAR;
            }
        }
        for (int line : active()) {
            Line one = line(line);
            int length = Math.min(length(one), far[one.first][one.second]);
            far[one.first][one.second] = length;
            far[one.second][one.first] = length;
        }
        for (int r = 0; r < points; r++) {
            for (int p = 0; p < points; p++) {
                for (int q = 0; q < points; q++) {
                    far[p][q] = Math.min(far[p][q], far[p][r] + far[r][q]);
                }
            }
        }
        return far;
    }

    int distance(int point, int other) {
        points(point, other);
        int far = distances()[point][other];
        return far >= FAR ? -1 : far;
    }

    /** The lines from the other point backwards; null if there is no way. */
    private List<Integer> way(int point, int other) {
        points(point, other);
        int[] far = distances()[point];
        if (far[other] >= FAR) {
            return null;
        }
        List<Integer> way = new ArrayList<>();
        int here = other;
        while (here != point) {
            for (int line : activeAt(active(), here)) {
                if (far[over(line, here)] + length(line(line)) == far[here]) {
                    way.add(line);
                    here = over(line, here);
                    break;
                }
            }
        }
        return way;
    }

    int riseBetween(int point, int other) {
        List<Integer> way = way(point, other);
        if (way == null) {
            return NONE;
        }
        Collections.reverse(way);
        int rise = 0;
        int here = point;
        for (int line : way) {
            rise += gone(line, here);
            here = over(line, here);
        }
        return rise;
    }

    int wayBetween(int point, int other) {
        List<Integer> way = way(point, other);
        return way == null ? 0 : bits(way);
    }

    int bridges() {
        List<Integer> found = new ArrayList<>();
        for (int line : active()) {
            List<Integer> rest = active();
            rest.remove(Integer.valueOf(line));
            if (!part(rest, line(line).first).contains(line(line).second)) {
                found.add(line);
            }
        }
        return bits(found);
    }

    // ---- loops

    private List<Integer> tree(List<Integer> use) {
        List<Integer> tree = new ArrayList<>();
        Set<Integer> done = new HashSet<>();
        for (int start = 0; start < state.held.size(); start++) {
            if (done.add(start)) {
                ArrayDeque<Integer> queue = new ArrayDeque<>(List.of(start));
                while (!queue.isEmpty()) {
                    int point = queue.remove();
                    for (int line : activeAt(use, point)) {
                        if (done.add(over(line, point))) {
                            tree.add(line);
                            queue.add(over(line, point));
                        }
                    }
                }
            }
        }
        return tree;
    }

    int treeLines() {
        return bits(tree(active()));
    }

    /** Each loop as the face tells it: lines, 100 more where they are gone backwards. */
    private List<List<Integer>> loops(List<Integer> use) {
        List<Integer> tree = tree(use);
        List<List<Integer>> all = new ArrayList<>();
        for (int line : use) {
            if (!tree.contains(line)) {
                List<Integer> way = new ArrayList<>(List.of(line));
                search(tree, line(line).second, line(line).first, -1, way);
                all.add(way);
            }
        }
        return all;
    }

    private boolean search(List<Integer> tree, int here, int goal, int came, List<Integer> way) {
        if (here == goal) {
            return true;
        }
        for (int line : activeAt(tree, here)) {
            if (line != came) {
                way.add(line(line).first == here ? line : line + 100);
                if (search(tree, over(line, here), goal, line, way)) {
                    return true;
                }
                way.remove(way.size() - 1);
            }
        }
        return false;
    }

    private List<Integer> loop(int loop) {
        List<List<Integer>> all = loops(active());
        return all.get(index(loop, all));
    }

    private int sum(List<Integer> way) {
        return way.stream().mapToInt(k -> k < 100 ? rise(line(k)) : -rise(line(k - 100))).sum();
    }

    private int measure(List<Integer> way) {
        return way.stream().mapToInt(k -> length(line(k % 100))).sum();
    }

    private int limit(List<Integer> way) {
        BigInteger t = BigInteger.valueOf(state.settings[0]);
        return t.multiply(t).multiply(BigInteger.valueOf(10L * measure(way))).sqrt().intValueExact();
    }

    private boolean isBad(List<Integer> way) {
        return Math.abs(sum(way)) > limit(way);
    }

    int loopCount() {
        return loops(active()).size();
    }

    int loopLine(int loop, int k) {
        List<Integer> way = loop(loop);
        return k < 0 || k >= way.size() ? -1 : way.get(k);
    }

    int loopLength(int loop) {
        return measure(loop(loop));
    }

    int misclosure(int loop) {
        return sum(loop(loop));
    }

    int allowed(int loop) {
        return limit(loop(loop));
    }

    int badLoops() {
        int bits = 0;
        List<List<Integer>> all = loops(active());
        for (int loop = 0; loop < all.size(); loop++) {
            bits |= isBad(all.get(loop)) ? 1 << loop : 0;
        }
        return bits;
    }

    int worstLoop() {
        int worst = -1;
        int most = 0;
        List<List<Integer>> all = loops(active());
        for (int loop = all.size() - 1; loop >= 0; loop--) {
            int excess = Math.abs(sum(all.get(loop))) - limit(all.get(loop));
            if (excess > 0 && excess >= most) {
                most = excess;
                worst = loop;
            }
        }
        return worst;
    }

    int suspectLine() {
        int[] bad = new int[20];
        boolean[] good = new boolean[20];
        for (List<Integer> way : loops(active())) {
            for (int k : way) {
                bad[k % 100] += isBad(way) ? 1 : 0;
                good[k % 100] |= !isBad(way);
            }
        }
        int suspect = -1;
        for (int line = 19; line >= 0; line--) {
            if (!good[line] && bad[line] > 0 && (suspect < 0 || bad[line] >= bad[suspect])) {
                suspect = line;
            }
        }
        return suspect;
    }

    int badWithout(int line) {
        index(line, state.lines);
        List<Integer> rest = active();
        rest.remove(Integer.valueOf(line));
        return (int) loops(rest).stream().filter(this::isBad).count();
    }

    // ---- heights

    int benchGap(int point, int other) {
        int rise = riseBetween(point, other);
        if (heldAt(point) < 0 || heldAt(other) < 0 || rise == NONE) {
            return NONE;
        }
        return rise - 100 * (heldAt(other) - heldAt(point));
    }

    private List<BigInteger> carried() {
        List<BigInteger> heights = new ArrayList<>();
        ArrayDeque<Integer> queue = new ArrayDeque<>();
        for (int point = 0; point < state.held.size(); point++) {
            Integer held = state.held.get(point);
            heights.add(held == null ? null : BigInteger.valueOf(100L * held));
            if (held != null) {
                queue.add(point);
            }
        }
        while (!queue.isEmpty()) {
            int point = queue.remove();
            for (int line : activeAt(active(), point)) {
                int other = over(line, point);
                if (heights.get(other) == null) {
                    heights.set(other, heights.get(point).add(BigInteger.valueOf(gone(line, point))));
                    queue.add(other);
                }
            }
        }
        return heights;
    }

    private static long value(BigInteger height) {
        return height == null ? Long.MIN_VALUE : height.longValueExact();
    }

    long provisional(int point) {
        return value(carried().get(index(point, state.held)));
    }

    int reached() {
        List<BigInteger> heights = carried();
        List<Integer> found = new ArrayList<>();
        for (int point = 0; point < heights.size(); point++) {
            if (heights.get(point) != null) {
                found.add(point);
            }
        }
        return bits(found);
    }

    boolean isAdjusted() {
        return state.adjusted != null;
    }

    long heightOf(int point) {
        index(point, state.held);
        return state.adjusted == null ? Long.MIN_VALUE : value(state.adjusted.get(point));
    }

    long residual(int line) {
        Line one = line(line);
        long first = heightOf(one.first);
        long second = heightOf(one.second);
        boolean none = !one.active || first == Long.MIN_VALUE || second == Long.MIN_VALUE;
        return none ? Long.MIN_VALUE : second - first - rise(one);
    }

    int worstLine() {
        int worst = -1;
        long most = 0;
        for (int line = state.lines.size() - 1; line >= 0; line--) {
            long residual = residual(line);
            long share = Math.abs(residual) * 1000 / length(line(line));
            if (residual != Long.MIN_VALUE && share >= most) {
                most = share;
                worst = line;
            }
        }
        return worst;
    }

    int mostMoved() {
        int moved = -1;
        long most = 0;
        for (int point = state.held.size() - 1; point >= 0; point--) {
            long height = heightOf(point);
            if (height != Long.MIN_VALUE && Math.abs(height - provisional(point)) >= most) {
                most = Math.abs(height - provisional(point));
                moved = point;
            }
        }
        return moved;
    }

    long residualSum() {
        BigInteger sum = BigInteger.ZERO;
        for (int line = 0; line < state.lines.size(); line++) {
            if (residual(line) != Long.MIN_VALUE) {
                BigInteger weight = BigInteger.valueOf(lineProperty(line, 6));
                sum = sum.add(BigInteger.valueOf(residual(line)).abs().multiply(weight));
            }
        }
        return sum.longValueExact();
    }

    int redundancy() {
        List<BigInteger> heights = carried();
        int difference = 0;
        for (int line : active()) {
            difference += heights.get(line(line).first) != null && heights.get(line(line).second) != null ? 1 : 0;
        }
        for (int point = 0; point < heights.size(); point++) {
            difference -= heights.get(point) != null && state.held.get(point) == null ? 1 : 0;
        }
        return difference;
    }

    int totalLength() {
        return active().stream().mapToInt(line -> length(line(line))).sum();
    }

    // ---- changes

    private void change() {
        kept.add(state);
        if (kept.size() > 8) {
            kept.remove(0);
        }
        state = state.copy();
        state.adjusted = null;
    }

    private int heldCount() {
        return (int) state.held.stream().filter(height -> height != null).count();
    }

    int hold(int point, int height) {
        if (point < 0 || point >= state.held.size()) {
            return -1;
        }
        if (height < 0 || height > 9999999) {
            return -2;
        }
        change();
        state.held.set(point, height);
        return heldCount();
    }

    int release(int point) {
        if (point < 0 || point >= state.held.size() || state.held.get(point) == null) {
            return -1;
        }
        change();
        state.held.set(point, null);
        return heldCount();
    }

    private static boolean outside(int value, int[] range) {
        return value < range[0] || value > range[1];
    }

    int setReading(int line, int setup, int what, int value) {
        if (line < 0 || line >= state.lines.size() || !has(line(line), setup)) {
            return -1;
        }
        if (what < 0 || what > 3 || outside(value, NUMBER[what])) {
            return -2;
        }
        change();
        int previous = line(line).setups.get(setup)[what];
        line(line).setups.get(setup)[what] = value;
        return previous;
    }

    int addSetup(int line, int back, int fore, int backDistance, int foreDistance) {
        if (line < 0 || line >= state.lines.size()) {
            return -1;
        }
        int[] four = {back, fore, backDistance, foreDistance};
        for (int k = 0; k < 4; k++) {
            if (outside(four[k], NUMBER[k])) {
                return -2;
            }
        }
        if (line(line).setups.size() == 8) {
            return -3;
        }
        change();
        line(line).setups.add(four);
        return line(line).setups.size();
    }

    int setActive(int line, boolean active) {
        if (line < 0 || line >= state.lines.size()) {
            return -1;
        }
        change();
        line(line).active = active;
        return loopCount();
    }

    int setCollimation(int level, int collimation) {
        if (level < 0 || level >= state.collimations.size() || Math.abs((long) collimation) > 200) {
            return NONE;
        }
        change();
        return state.collimations.set(level, collimation);
    }

    int applyTest(int test) {
        if (test < 0 || test >= state.tests.size() || testNumber(test, 1) == NONE) {
            return NONE;
        }
        change();
        return state.collimations.set(testNumber(test, 0), testNumber(test, 1));
    }

    int adjust(int rounds) {
        if (rounds < 1 || rounds > 200) {
            return -2;
        }
        change();
        state.adjusted = carried();
        for (int round = 1; round <= rounds; round++) {
            List<BigInteger> before = new ArrayList<>(state.adjusted);
            for (int point = 0; point < before.size(); point++) {
                if (before.get(point) != null && state.held.get(point) == null) {
                    state.adjusted.set(point, mean(point));
                }
            }
            if (state.adjusted.equals(before)) {
                return round;
            }
        }
        return rounds;
    }

    private BigInteger mean(int point) {
        BigInteger sum = BigInteger.ZERO;
        BigInteger weights = BigInteger.ZERO;
        for (int line : activeAt(active(), point)) {
            int other = over(line, point);
            BigInteger weight = BigInteger.valueOf(1000000 / length(line(line)));
            sum = sum.add(weight.multiply(state.adjusted.get(other).add(BigInteger.valueOf(gone(line, other)))));
            weights = weights.add(weight);
        }
        // The nearest integer, halves upwards: the greatest one that is at most the mean and a half.
        BigInteger[] parts = sum.shiftLeft(1).add(weights).divideAndRemainder(weights.shiftLeft(1));
        return parts[1].signum() < 0 ? parts[0].subtract(BigInteger.ONE) : parts[0];
    }

    int setSetting(int setting, int value) {
        if (setting < 0 || setting > 2 || outside(value, SETTING[setting])) {
            return -2;
        }
        change();
        int previous = state.settings[setting];
        state.settings[setting] = value;
        return previous;
    }

    int undo() {
        if (kept.isEmpty()) {
            return -1;
        }
        state = kept.remove(kept.size() - 1);
        return kept.size();
    }
}
