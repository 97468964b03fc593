import java.io.IOException;
import java.nio.file.Files;
import java.nio.file.Path;
import java.util.ArrayList;
import java.util.HashSet;
import java.util.LinkedHashMap;
import java.util.List;
import java.util.Map;
import java.util.Set;
import java.util.function.IntFunction;
import java.util.regex.Matcher;
import java.util.regex.Pattern;

/**
 * The sentences of the document, each with a test of its own; at the end it is looked at whether a
 * sentence of the document was left out.
 */
final class Edge {
    static final int NONE = LevelNetwork.NONE;
    static final int NOT_FOUND = LevelNetwork.NOT_FOUND;
    static final int BAD_VALUE = LevelNetwork.BAD_VALUE;
    static final int FULL = LevelNetwork.FULL;
    static final int MAX = Integer.MAX_VALUE;
    static final int MIN = Integer.MIN_VALUE;
    static final long NO_HEIGHT = Check.NO_HEIGHT;

    private static final Path DOCUMENT = Path.of("../shared/DOC.md");
    /** No index is as great as these; some are a small one again when only their lowest bits count. */
    private static final int[] FAR_INDEXES = {20, 21, 31, 32, 33, 64, 100, 128, 255, 256, 65536, 1 << 30, MAX - 1, MAX,
        MIN, MIN + 1, -65536, -256, -128, -64, -33, -32, -31, -20, -16, -8, -3, -2, -1};

    private static final Map<String, List<String>> quoted = new LinkedHashMap<>();
    private static String section = "";

    private Edge() {
    }

    interface Asked {
        long of(LevelNetwork x, int index);
    }

    // ---- the sentences

    /** The sentences that follow are under this heading of the document. */
    static void under(String heading) {
        section = heading;
        quoted.put(heading, new ArrayList<>());
    }

    /** The document says this; the test would fail if it did not hold. */
    static void says(String sentence, Check.Call test) {
        quoted.get(section).add(sentence);
        Check.about(section + ": " + sentence);
        int before = Check.looked();
        try {
            test.run();
        } catch (RuntimeException e) {
            Check.fail("the test ended with " + e);
        }
        if (Check.looked() == before) {
            Check.fail("the test looks at no answer");
        }
        Check.about("");
    }

    /** The document says this, but no answer follows from it. */
    static void plain(String sentence) {
        quoted.get(section).add(sentence);
    }

    // ---- indexes

    static void answersLevels(Asked asked) {
        answers(3, count -> sized(count, 2, 0, 0), asked);
    }

    static void refusesLevels(Asked asked) {
        refuses(3, count -> sized(count, 2, 0, 0), asked);
    }

    static void answersPoints(Asked asked) {
        answers(16, count -> sized(1, count, 0, 0), asked);
    }

    static void refusesPoints(Asked asked) {
        refuses(16, count -> sized(1, count, 0, 0), asked);
    }

    static void answersLines(Asked asked) {
        answers(20, count -> sized(1, 2, count, 0), asked);
    }

    static void refusesLines(Asked asked) {
        refuses(20, count -> sized(1, 2, count, 0), asked);
    }

    static void answersTests(Asked asked) {
        answers(6, count -> sized(1, 0, 0, count), asked);
    }

    static void refusesTests(Asked asked) {
        refuses(6, count -> sized(1, 0, 0, count), asked);
    }

    static void answersLoops(Asked asked) {
        answers(19, count -> sized(1, 2, count + 1, 0), asked);
    }

    static void refusesLoops(Asked asked) {
        refuses(19, count -> sized(1, 2, count + 1, 0), asked);
    }

    /** Indexes that are not valid where there are so many things. */
    static List<Integer> outside(int count) {
        List<Integer> all = new ArrayList<>(List.of(count));
        for (int far : FAR_INDEXES) {
            if (far < 0 || far > count) {
                all.add(far);
            }
        }
        return all;
    }

    /** With the fewest things and with the most of them, each index below their number is valid. */
    private static void answers(int most, IntFunction<LevelNetwork> made, Asked asked) {
        for (int count : new int[] {1, most}) {
            LevelNetwork x = made.apply(count);
            for (int index = 0; index < count; index++) {
                boolean answered = true;
                try {
                    asked.of(x, index);
                } catch (RuntimeException e) {
                    answered = false;
                }
                Check.due("index " + index + " of " + count + " is valid", answered, true);
            }
        }
    }

    private static void refuses(int most, IntFunction<LevelNetwork> made, Asked asked) {
        for (int count : new int[] {0, 1, most}) {
            LevelNetwork x = made.apply(count);
            for (int index : outside(count)) {
                Check.refused("index " + index + " of " + count, () -> asked.of(x, index));
            }
        }
        LevelNetwork made0 = new LevelNetwork();
        Check.refused("a new object", () -> asked.of(made0, 0));
    }

    // ---- texts

    static String levels(int count) {
        StringBuilder text = new StringBuilder();
        for (int k = 0; k < count; k++) {
            text.append("level ").append((char) ('u' + k)).append(" 0;");
        }
        return text.toString();
    }

    /** Points a, b and so on. */
    static String points(int count) {
        StringBuilder text = new StringBuilder();
        for (int k = 0; k < count; k++) {
            text.append("point ").append((char) ('a' + k)).append(';');
        }
        return text.toString();
    }

    /** Levels from u on, points from a on, all lines from a to b, all tests of u. */
    static LevelNetwork sized(int levels, int points, int lines, int tests) {
        return Check.network(levels(levels) + points(points) + "line a b u 0 0 1 1;".repeat(lines)
                + "test u 0 0 1 1 0 0 1 1;".repeat(tests));
    }

    /** A chain of points from a on, each line from one to the next, with level u and this setup. */
    static String chain(int points, String setup) {
        StringBuilder text = new StringBuilder(points(points));
        for (int k = 1; k < points; k++) {
            text.append("line ").append((char) ('a' + k - 1)).append(' ').append((char) ('a' + k));
            text.append(" u ").append(setup).append(';');
        }
        return text.toString();
    }

    // ---- what the document says besides

    static void compareWithDocument() throws IOException {
        if (!Files.exists(DOCUMENT)) {
            System.out.println("there is no " + DOCUMENT + ": whether a sentence is left out is not looked at");
            return;
        }
        Map<String, String> sections = sections(Files.readString(DOCUMENT));
        Set<String> headings = new HashSet<>(quoted.keySet());
        headings.removeAll(sections.keySet());
        Check.due("headings that the document does not have: " + headings, headings.size(), 0);
        for (Map.Entry<String, String> one : sections.entrySet()) {
            leftOut(one.getKey(), one.getValue(), quoted.getOrDefault(one.getKey(), List.of()));
        }
    }

    private static Map<String, String> sections(String document) {
        Map<String, String> found = new LinkedHashMap<>();
        String heading = "";
        for (String line : document.replaceAll("(?s)```.*?```", "").split("\n")) {
            Matcher part = Pattern.compile("([A-Z]{4,}( FORMAT for load)?)\\. (.*)").matcher(line);
            String rest = line;
            if (line.startsWith("#")) {
                heading = line.replaceAll("^#+ ", "");
                rest = "";
            } else if (line.equals("The constants:")) {
                heading = "The constants";
                rest = "";
            } else if (part.matches()) {
                heading = part.group(1);
                rest = part.group(3);
            } else if (line.matches("`.*`")) {
                rest = ""; // a signature, which FaceTest looks at
            }
            found.merge(heading, smooth(rest), (a, b) -> a + " " + b);
        }
        found.keySet().removeAll(List.of("LevelNetwork", "The public face", "Description", "Not promised"));
        return found;
    }

    private static String smooth(String text) {
        return text.replace("`", "").replaceAll("^- ", "").replaceAll("\\s+", " ").trim();
    }

    private static void leftOut(String heading, String text, List<String> quotes) {
        String left = text.replaceAll("\\s+", " ");
        for (String quote : quotes) {
            int at = left.indexOf(quote);
            Check.due(heading + " says: " + quote, at >= 0, true);
            if (at >= 0) {
                left = left.substring(0, at) + "|" + left.substring(at + quote.length());
            }
        }
        boolean none = !Pattern.compile("[A-Za-z0-9]").matcher(left).find();
        Check.due(heading + ": sentences without a test: " + left, none, true);
    }
}
