import java.io.IOException;
import java.nio.file.Files;
import java.nio.file.Path;
import java.util.Set;
import java.util.regex.Matcher;
import java.util.regex.Pattern;

/**
 * What a look at the text of the class can tell of ../shared/LANGUAGE.md: words that it rules out, the
 * library that it leaves, lengths of methods. FaceTest looks at the face.
 */
public final class LanguageTest {
    private static final Set<String> LIBRARY = Set.of("Integer.MIN_VALUE", "Long.MIN_VALUE", "Integer.bitCount",
            "Math.abs", "Math.floorDiv", "System.arraycopy");
    private static final String[] RULED_OUT = {"import", "package", "try", "catch", "finally", "synchronized", "assert",
        "var", "double", "float", "Object", "instanceof", "protected", "volatile", "transient", "native", "strictfp",
        "hashCode", "equals", "toString", "getClass", "Thread", "Runtime", "currentTimeMillis", "nanoTime", "random",
        "printf", "println"};

    public static void main(String[] args) throws IOException {
        String source = Files.readString(Path.of("src/main/java/LevelNetwork.java"));
        for (int k = 0; k < source.length(); k++) {
            if (source.charAt(k) > 126 || source.charAt(k) < 32 && source.charAt(k) != '\n') {
                Check.fail("a sign that is not plain at " + k);
            }
        }
        String code = source.replaceAll("(?s)/\\*.*?\\*/", " ").replaceAll("//[^\n]*", "")
                .replaceAll("\"[^\"\n]*\"", "\"\"");
        for (String word : RULED_OUT) {
            Check.due("4 6 10 13: the word " + word, Pattern.compile("\\b" + word + "\\b").matcher(code).find(), false);
        }
        Check.due("2: no lambda", code.contains("->"), false);
        Check.due("2: no method reference", code.contains("::"), false);
        Check.due("10: no texts joined by +", Pattern.compile("\"\" *\\+|\\+ *\"\"").matcher(code).find(), false);
        library(code);
        made(code);
        statics(code);
        methods(code);
        Check.end();
    }

    private static void library(String code) {
        Matcher matcher = Pattern.compile("\\b(Integer|Long|Math|System|Arrays|String|Character|Byte|Boolean)\\.\\w+").matcher(code);
        while (matcher.find()) {
            Check.due("4: " + matcher.group() + " is used", LIBRARY.contains(matcher.group()), true);
        }
    }

    /** All rows are made with their object, so that a call makes nothing but what it throws. */
    private static void made(String code) {
        for (String line : code.split("\n")) {
            if (line.matches(".*\\bnew\\b.*")) {
                boolean fine = line.matches("        throw new IndexOutOfBoundsException\\(\"\"\\);")
                        || line.matches("            throw new IndexOutOfBoundsException\\(\"\"\\);")
                        || line.matches("        final \\w+(\\[\\])? \\w+ = new \\w+[\\[(].*[\\])];")
                        || line.matches("        \\w+ = new \\w+\\(\\);");
                Check.due("12: made in a call: " + line.trim(), fine, true);
            }
        }
    }

    private static void statics(String code) {
        Matcher matcher = Pattern.compile("\\bstatic\\b[^;{(]*[;{(=]").matcher(code);
        while (matcher.find()) {
            String one = matcher.group();
            boolean fine = one.endsWith("(") || one.contains("class") || one.contains("final");
            Check.due("5: " + one.trim() + " is final", fine, true);
        }
        Check.due("5: no static block", Pattern.compile("\\bstatic\\s*\\{").matcher(code).find(), false);
    }

    private static void methods(String code) {
        String[] lines = code.split("\n");
        for (int k = 0; k < lines.length; k++) {
            if (lines[k].matches(" {4,8}\\w[^=;]*\\(.*\\).*\\{")) {
                int indent = lines[k].length() - lines[k].stripLeading().length();
                int end = k;
                while (!lines[end].startsWith(" ".repeat(indent) + "}")) {
                    end++;
                }
                Check.due("11: at most sixty lines: " + lines[k].trim(), end - k < 60, true);
                Check.due("11: at most seven parameters: " + lines[k].trim(), lines[k].split(",").length <= 7, true);
            }
        }
    }
}
