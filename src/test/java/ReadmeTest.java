import java.io.IOException;
import java.lang.reflect.Method;
import java.lang.reflect.Modifier;
import java.nio.file.Files;
import java.nio.file.Path;
import java.util.regex.Pattern;

/** README.md says how to use the class: its example is run here, its text being taken from there. */
public final class ReadmeTest {
    private static String page;
    private static String example;

    private ReadmeTest() {
    }

    public static void main(String[] args) throws IOException {
        page = Files.readString(Path.of("README.md"));
        example = block("```java\n");
        run(block("```\n"));
        isTheSame(Files.readString(Path.of("src/test/java/ReadmeTest.java")));
        namesEachMethod();
        Check.end();
    }

    private static String block(String opening) {
        int from = page.indexOf(opening) + opening.length();
        return page.substring(from, page.indexOf("```", from));
    }

    private static void run(String text) {
        LevelNetwork x = new LevelNetwork();
        for (int at = 0; at < text.length(); at += 20) {
            int[] fours = new int[5];
            for (int k = 0; k < 20; k++) {
                char next = at + k < text.length() ? text.charAt(at + k) : ' ';
                fours[k / 4] = fours[k / 4] << 8 | next;
            }
            x.feed(fours[0], fours[1], fours[2], fours[3], fours[4]);
        }
        int statements = x.load(text.length());
        told("statements", statements, 7);
        int b = x.pointNamed(2 << 25);
        told("b", b, 1);
        int rise = x.riseOf(0);
        told("rise", rise, 49800);
        int loops = x.loopCount();
        told("loops", loops, 1);
        int gap = x.misclosure(0);
        told("gap", gap, 200);
        int allowed = x.allowed(0);
        told("allowed", allowed, 316);
        int bad = x.badLoops();
        told("bad", bad, 0);
        long carried = x.provisional(b);
        told("carried", carried, 149800);
        int rounds = x.adjust(50);
        told("rounds", rounds, 2);
        long height = x.heightOf(b);
        told("height", height, 149700);
        long left = x.residual(0);
        told("left", left, -100);
        int previous = x.applyTest(0);
        told("previous", previous, 20);
        Check.due("the collimation after applyTest", x.collimation(0), 25);
        boolean adjusted = x.isAdjusted();
        Check.due("adjusted", adjusted, false);
        saysAnswer("adjusted", "false");
        int changes = x.undo();
        told("changes", changes, 1);
        long again = x.heightOf(b);
        told("again", again, 149700);
    }

    /** The answer is the one that is due, and the one that the page gives. */
    private static void told(String name, long got, long due) {
        Check.due(name, got, due);
        saysAnswer(name, String.valueOf(due));
    }

    private static void saysAnswer(String name, String answer) {
        Pattern line = Pattern.compile(" " + name + " = .*; +// " + answer + "(\\D.*)?$", Pattern.MULTILINE);
        Check.due("README.md gives " + answer + " for " + name, line.matcher(example).find(), true);
    }

    private static void isTheSame(String source) {
        for (String line : example.split("\n")) {
            String code = line.replaceAll("//.*", "").trim();
            Check.due("what is run here has the line " + code, source.contains(" " + code + "\n"), true);
        }
    }

    private static void namesEachMethod() {
        for (Method method : LevelNetwork.class.getDeclaredMethods()) {
            if (Modifier.isPublic(method.getModifiers())) {
                Check.due("README.md names " + method.getName(), page.contains("`" + method.getName() + "`"), true);
            }
        }
    }
}
