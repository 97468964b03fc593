import java.lang.reflect.InvocationTargetException;
import java.lang.reflect.Method;
import java.lang.reflect.Modifier;
import java.util.ArrayList;
import java.util.Arrays;
import java.util.Collections;
import java.util.Comparator;
import java.util.List;
import java.util.Random;

/** Long runs of drawn calls, each answered by the class as by the Model. The draws are the same each time. */
public final class ModelTest {
    private static final int RUNS = 4000;
    /** What later calls of an object answer is free. */
    private static final int CALLS = 512;
    private static final int[] WILD = {Integer.MIN_VALUE, Integer.MIN_VALUE + 1, -2147483000, -65536, -33, -1, 21, 32, 33, 64,
        1000, 65536, 9999999, 10000000, 1 << 30, Integer.MAX_VALUE - 1, Integer.MAX_VALUE};

    private final Random random;
    private final int run;
    private final LevelNetwork x = new LevelNetwork();
    private final Model model = new Model();
    private final List<String> calls = new ArrayList<>();
    private final List<Method> asking = new ArrayList<>();
    private final List<Method> changing = new ArrayList<>();
    private boolean wrong = false;
    private int used = 0;

    private ModelTest(int run) {
        this.run = run;
        random = new Random(1000003L * run + 17);
        for (Method method : LevelNetwork.class.getDeclaredMethods()) {
            if (Modifier.isPublic(method.getModifiers()) && !method.getName().matches("feed|load")) {
                boolean changes = method.getName().matches("hold|release|set[RASC].*|addSetup|applyTest|adjust|undo");
                (changes ? changing : asking).add(method);
            }
        }
        // The order in which methods are told is not fixed.
        asking.sort(Comparator.comparing(Method::getName));
        changing.sort(Comparator.comparing(Method::getName));
    }

    public static void main(String[] args) {
        int wrongRuns = 0;
        for (int run = 0; run < RUNS && wrongRuns < 3; run++) {
            ModelTest test = new ModelTest(run);
            test.play();
            Check.due("run " + run + " goes wrong", test.wrong, false);
            wrongRuns += test.wrong ? 1 : 0;
        }
        Check.end();
    }

    private void play() {
        load(text());
        if (run % 10 == 0) {
            fill();
        }
        for (int round = 0; round < 8 && goesOn(); round++) {
            int kind = random.nextInt(20);
            if (kind == 0) {
                load(text());
            } else if (kind < 3) {
                load(spoilt(text()));
            }
            for (int k = random.nextInt(4); k >= 0 && goesOn(); k--) {
                call(changing.get(random.nextInt(changing.size())));
            }
            for (int k = 0; k < 24 && goesOn(); k++) {
                call(asking.get(random.nextInt(asking.size())));
            }
        }
        everything();
    }

    /** More setups for all lines, up to the limit for most, with the numbers that are the greatest or the least. */
    private void fill() {
        for (int setup = 1 + random.nextInt(3); setup <= 8; setup++) {
            for (int line = 0; line < model.lineCount() && goesOn(); line++) {
                call(named(changing, "addSetup"), new Object[] {line, extreme(0, 40000), extreme(0, 40000), extreme(1, 100), extreme(1, 100)});
            }
        }
    }

    private int extreme(int least, int greatest) {
        int kind = random.nextInt(5);
        return kind < 2 ? least : kind < 4 ? greatest : least + random.nextInt(greatest - least + 1);
    }

    private boolean goesOn() {
        return !wrong && used < CALLS;
    }

    /**
     * Every question without parameters, with each index, with each pair of points and each line of a
     * loop: in an order that is drawn, as many as may be asked still.
     */
    private void everything() {
        List<Object[]> questions = new ArrayList<>();
        for (Method method : asking) {
            if (method.getParameterCount() == 0) {
                questions.add(new Object[] {method});
            }
            for (int index = -1; method.getParameterCount() == 1 && index <= 20; index++) {
                questions.add(new Object[] {method, index});
            }
        }
        for (int loop = 0; loop < model.loopCount(); loop++) {
            for (int k = 0; k < 18; k++) {
                questions.add(new Object[] {named(asking, "loopLine"), loop, k});
            }
        }
        for (int point = 0; point < model.pointCount(); point++) {
            for (int other = 0; other < model.pointCount(); other++) {
                questions.add(new Object[] {named(asking, "riseBetween"), point, other});
                questions.add(new Object[] {named(asking, "wayBetween"), point, other});
                questions.add(new Object[] {named(asking, "benchGap"), point, other});
            }
        }
        Collections.shuffle(questions, random);
        for (int k = 0; k < questions.size() && goesOn(); k++) {
            Object[] question = questions.get(k);
            call((Method) question[0], Arrays.copyOfRange(question, 1, question.length));
        }
    }

    private static Method named(List<Method> methods, String name) {
        for (Method method : methods) {
            if (method.getName().equals(name)) {
                return method;
            }
        }
        throw new IllegalArgumentException(name);
    }

    // ---- calls

    private void call(Method method) {
        Object[] args = new Object[method.getParameterCount()];
        for (int k = 0; k < args.length; k++) {
            args[k] = method.getParameterTypes()[k] == boolean.class ? (Object) (random.nextInt(3) > 0) : (Object) drawn(method.getName(), k);
        }
        if (method.getName().equals("setReading") && random.nextInt(3) > 0) {
            args[2] = random.nextInt(4);
            args[3] = (int) args[2] < 2 ? reading() : 1 + random.nextInt(100);
        }
        call(method, args);
    }

    private int drawn(String name, int k) {
        if (random.nextInt(60) == 0) {
            return WILD[random.nextInt(WILD.length)];
        }
        if (k == 0) {
            return switch (name) {
                case "levelNamed", "pointNamed" -> Check.name(word());
                case "getSetting", "setSetting" -> random.nextInt(4);
                case "adjust" -> random.nextInt(4) == 0 ? 200 : random.nextInt(8);
                case "collimation", "setCollimation" -> index(model.levelCount());
                case "testNumber", "applyTest" -> index(model.testCount());
                case "loopLine", "loopLength", "misclosure", "allowed" -> index(model.loopCount());
                case "heldAt", "linesAt", "rootOf", "distance", "riseBetween", "wayBetween", "benchGap",
                    "provisional", "heightOf", "hold", "release" -> index(model.pointCount());
                default -> index(model.lineCount());
            };
        }
        return switch (name) {
            case "distance", "riseBetween", "wayBetween", "benchGap" -> index(model.pointCount());
            case "hold" -> random.nextInt(4) == 0 ? random.nextInt(10000100) : random.nextInt(3000);
            case "setSetting" -> random.nextInt(4) == 0 ? random.nextInt(810) : random.nextInt(60);
            case "setCollimation" -> random.nextInt(410) - 205;
            case "addSetup" -> k < 3 ? reading() : random.nextInt(102);
            default -> random.nextInt(10) - 1;
        };
    }

    private int index(int count) {
        return random.nextInt(25) == 0 ? -1 : random.nextInt(count + 1) == count ? random.nextInt(count + 1) : random.nextInt(count);
    }

    private void call(Method method, Object[] args) {
        StringBuilder told = new StringBuilder(method.getName()).append('(');
        for (Object arg : args) {
            told.append(arg).append(' ');
        }
        calls.add(told.toString().trim() + ")");
        used++;
        String got = answer(method, x, args);
        String due;
        try {
            due = answer(Model.class.getDeclaredMethod(method.getName(), method.getParameterTypes()), model, args);
        } catch (NoSuchMethodException e) {
            throw new IllegalStateException(e);
        }
        if (!got.equals(due)) {
            wrong = true;
            Check.fail("run " + run + ": " + String.join("; ", calls) + " answered " + got + ", due is " + due);
        }
    }

    private static String answer(Method method, Object object, Object[] args) {
        try {
            return String.valueOf(method.invoke(object, args));
        } catch (InvocationTargetException e) {
            return e.getCause().getClass().getName();
        } catch (IllegalAccessException e) {
            throw new IllegalStateException(e);
        }
    }

    // ---- texts

    private void load(String text) {
        int needed = (text.length() + 19) / 20 + 3;
        if (used + needed > CALLS) {
            return;
        }
        used += needed;
        calls.add("load of " + text);
        Check.feed(x, text);
        for (int at = 0; at < text.length(); at += 20) {
            int[] fours = new int[5];
            for (int k = 0; k < 20; k++) {
                fours[k / 4] = fours[k / 4] << 8 | (at + k < text.length() ? text.charAt(at + k) : ' ');
            }
            model.feed(fours[0], fours[1], fours[2], fours[3], fours[4]);
        }
        int length = random.nextInt(20) == 0 ? random.nextInt(text.length() + 50) : text.length();
        int got = x.load(length);
        int due = model.load(length);
        if (got != due || x.errorPosition() != model.errorPosition()) {
            wrong = true;
            Check.fail("run " + run + ": load(" + length + ") of " + text + " answered " + got + " at "
                    + x.errorPosition() + ", due is " + due + " at " + model.errorPosition());
        }
        if (due == -2) {
            x.load(0);
            model.load(0);
        }
    }

    private String text() {
        StringBuilder text = new StringBuilder();
        int levels = 1 + random.nextInt(3);
        int points = 2 + random.nextInt(random.nextInt(3) == 0 ? 15 : 7);
        for (int k = 0; k < levels; k++) {
            text.append("level l").append((char) ('a' + k)).append(' ').append(random.nextInt(201));
            text.append(random.nextInt(2) == 0 ? "down;" : ";");
        }
        for (int k = 0; k < points; k++) {
            text.append("point ").append((char) ('a' + k));
            int held = random.nextInt(8);
            text.append(held == 0 ? " " + random.nextInt(10000000) : held < 3 ? " " + random.nextInt(3000) : "").append(';');
        }
        String[] settings = {"tolerance", "sight", "balance"};
        int[][] ranges = {{0, 501}, {1, 100}, {0, 801}};
        for (int k = 0; k < 3; k++) {
            if (random.nextInt(3) == 0) {
                text.append("set ").append(settings[k]).append(' ').append(ranges[k][0] + random.nextInt(ranges[k][1])).append(";");
            }
        }
        int tests = random.nextInt(4);
        for (int k = 0; k < tests; k++) {
            text.append("test l").append((char) ('a' + random.nextInt(levels)));
            for (int pair = 0; pair < 2; pair++) {
                text.append(' ').append(1000 + random.nextInt(60)).append(' ').append(1000 + random.nextInt(60));
                text.append(' ').append(1 + random.nextInt(60)).append(' ').append(1 + random.nextInt(60));
            }
            text.append(';');
        }
        int lines = random.nextInt(21);
        boolean closing = random.nextBoolean();
        for (int k = 0; k < lines && text.length() < 1120; k++) {
            line(text, points, levels, closing);
        }
        return text.toString();
    }

    /** With closing lines the heights of points are about the same, so that there are good loops too. */
    private void line(StringBuilder text, int points, int levels, boolean closing) {
        int first = random.nextInt(points);
        int second = (first + 1 + random.nextInt(points - 1)) % points;
        text.append("line ").append((char) ('a' + first)).append(' ').append((char) ('a' + second));
        text.append(" l").append((char) ('a' + random.nextInt(levels)));
        int setups = random.nextInt(20) == 0 ? 8 : random.nextInt(4) == 0 ? 2 : 1;
        for (int k = 0; k < setups && text.length() < 1160; k++) {
            int back = closing ? 1000 + random.nextInt(8) : reading();
            int fore = closing ? 1000 + random.nextInt(8) : reading();
            int far = random.nextInt(3) == 0 ? 100 : 3;
            text.append(' ').append(back).append(' ').append(fore);
            text.append(' ').append(1 + random.nextInt(far)).append(' ').append(1 + random.nextInt(far));
        }
        text.append(';');
    }

    private int reading() {
        int kind = random.nextInt(12);
        return kind == 0 ? random.nextInt(40010) : kind == 1 ? 0 : 1000 + random.nextInt(30);
    }

    private String word() {
        int kind = random.nextInt(4);
        return kind == 0 ? "l" + (char) ('a' + random.nextInt(3)) : kind == 1 ? "level" : "" + (char) ('a' + random.nextInt(18));
    }

    private static final String[] BITS = {";", " ", "\n", "level", "down", "point", "line", "test", "set", "sight",
        "balance", "tolerance", "a", "b", "la", "lb", "q", "abcdefg", "0", "1", "100", "101", "200", "201", "500", "501",
        "40000", "40001", "9999999", "10000000", "99999999999999999999", "007", "-", "A", "\t", "\u0000", "\u00e9", "\u00ff"};

    /** A text in which a token is put in, left out, said twice or replaced, or which is cut off. */
    private String spoilt(String text) {
        List<String> tokens = new ArrayList<>(List.of(text.split("(?<=;)|(?=;)|(?<= )|(?= )")));
        for (int k = random.nextInt(2); k >= 0; k--) {
            int place = random.nextInt(tokens.size());
            switch (random.nextInt(5)) {
                case 0 -> tokens.add(place, " " + BITS[random.nextInt(BITS.length)] + " ");
                case 1 -> tokens.set(place, tokens.size() == 1 ? "a" : "");
                case 2 -> tokens.add(place, " " + tokens.get(random.nextInt(tokens.size())) + " ");
                case 3 -> tokens.set(place, BITS[random.nextInt(BITS.length)]);
                default -> tokens = new ArrayList<>(tokens.subList(0, place + 1));
            }
        }
        String all = String.join("", tokens);
        return all.length() > 1200 ? all.substring(0, 1200) : all;
    }
}
