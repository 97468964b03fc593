import java.lang.reflect.Constructor;
import java.lang.reflect.Field;
import java.lang.reflect.Member;
import java.lang.reflect.Method;
import java.lang.reflect.Modifier;
import java.util.Arrays;
import java.util.Set;
import java.util.TreeSet;

/** The public face: every constant, constructor and method of the document, and no other. */
public final class FaceTest {
    private static final String[] METHODS = {
        "int feed(int,int,int,int,int)", "int load(int)", "int errorPosition()", "int levelCount()",
        "int pointCount()", "int lineCount()", "int testCount()", "int undoCount()",
        "int levelNamed(int)", "int pointNamed(int)", "int getSetting(int)", "int collimation(int)!",
        "int testNumber(int,int)!", "int heldAt(int)!", "int lineProperty(int,int)!",
        "int reading(int,int,int)!", "int stepOf(int,int)!", "int riseOf(int)!",
        "int collimationEffect(int)!", "int imbalance(int)!", "int faultsOf(int)!",
        "long turningHeight(int,int)!", "int pairOf(int)!", "int discrepancy(int)!",
        "int linesAt(int)!", "int rootOf(int)!", "int partCount()", "int distance(int,int)!",
        "int riseBetween(int,int)!", "int wayBetween(int,int)!", "int bridges()", "int treeLines()",
        "int loopCount()", "int loopLine(int,int)!", "int loopLength(int)!", "int misclosure(int)!",
        "int allowed(int)!", "int badLoops()", "int worstLoop()", "int suspectLine()",
        "int badWithout(int)!", "int benchGap(int,int)!", "long provisional(int)!", "int reached()",
        "boolean isAdjusted()", "long heightOf(int)!", "long residual(int)!", "int worstLine()",
        "int mostMoved()", "long residualSum()", "int redundancy()", "int totalLength()",
        "int hold(int,int)", "int release(int)", "int setReading(int,int,int,int)",
        "int addSetup(int,int,int,int,int)", "int setActive(int,boolean)", "int setCollimation(int,int)",
        "int applyTest(int)", "int adjust(int)", "int setSetting(int,int)", "int undo()",
    };

    private static final String[] CONSTANTS = {
        "TOLERANCE=0", "SIGHT=1", "BALANCE=2", "NONE=-2147483648", "NOT_FOUND=-1", "BAD_VALUE=-2",
        "FULL=-3", "SYNTAX_ERROR=-11", "RANGE_ERROR=-12", "NAME_ERROR=-13", "DUPLICATE_ERROR=-14",
        "COUNT_ERROR=-15",
    };

    public static void main(String[] args) throws IllegalAccessException {
        Check.due("the class is public and final", LevelNetwork.class.getModifiers(),
                Modifier.PUBLIC | Modifier.FINAL);
        same("methods", methods(), METHODS);
        same("constants", constants(), CONSTANTS);
        constructors();
        nested();
        names();
        Check.end();
    }

    private static void same(String what, Set<String> got, String[] want) {
        Set<String> due = new TreeSet<>(Arrays.asList(want));
        for (String one : got) {
            Check.due(what + ": " + one + " is in the document", due.contains(one), true);
        }
        for (String one : due) {
            Check.due(what + ": " + one + " is in the class", got.contains(one), true);
        }
    }

    private static Set<String> methods() {
        Set<String> found = new TreeSet<>();
        for (Method method : LevelNetwork.class.getDeclaredMethods()) {
            if (!Modifier.isPrivate(method.getModifiers())) {
                String types = Arrays.toString(method.getParameterTypes()).replaceAll("[\\[\\] ]", "");
                String thrown = Arrays.toString(method.getExceptionTypes());
                String end = thrown.equals("[]") ? "" : thrown.equals("[class java.lang.IndexOutOfBoundsException]") ? "!" : thrown;
                found.add(method.getReturnType() + " " + method.getName() + "(" + types + ")" + end);
                Check.due(method.getName() + " is public", method.getModifiers(), Modifier.PUBLIC);
            }
        }
        return found;
    }

    private static Set<String> constants() throws IllegalAccessException {
        Set<String> found = new TreeSet<>();
        for (Field field : LevelNetwork.class.getDeclaredFields()) {
            if (!Modifier.isPrivate(field.getModifiers())) {
                Check.due(field.getName() + " is a public constant", field.getModifiers(),
                        Modifier.PUBLIC | Modifier.STATIC | Modifier.FINAL);
                Check.due(field.getName() + " is an int", field.getType() == int.class, true);
                found.add(field.getName() + "=" + field.getInt(null));
            } else if (Modifier.isStatic(field.getModifiers())) {
                Check.due(field.getName() + " is final", Modifier.isFinal(field.getModifiers()), true);
            }
        }
        return found;
    }

    private static void constructors() {
        Constructor<?>[] all = LevelNetwork.class.getDeclaredConstructors();
        Check.due("constructors", all.length, 1);
        Check.due("its parameters", all[0].getParameterCount(), 0);
        Check.due("it is public", all[0].getModifiers(), Modifier.PUBLIC);
        Check.due("what it throws", all[0].getExceptionTypes().length, 0);
    }

    private static void nested() {
        Class<?>[] all = LevelNetwork.class.getDeclaredClasses();
        Check.due("at most twelve classes inside", all.length <= 12, true);
        for (Class<?> one : all) {
            Check.due(one.getName() + " is static", Modifier.isStatic(one.getModifiers()), true);
            Check.due(one.getName() + " is not public",
                    Modifier.isPublic(one.getModifiers()) || Modifier.isProtected(one.getModifiers()), false);
            int fields = 0;
            for (Field field : one.getDeclaredFields()) {
                fields += Modifier.isStatic(field.getModifiers()) ? 0 : 1;
            }
            Check.due(one.getName() + " has at most twenty fields, not " + fields, fields <= 20, true);
        }
    }

    /** No method that is not of the face bears the name of one that is. */
    private static void names() {
        Set<String> face = new TreeSet<>();
        for (String method : METHODS) {
            face.add(method.replaceAll("^.* |\\(.*$", ""));
        }
        Class<?>[] inside = LevelNetwork.class.getDeclaredClasses();
        for (Class<?> one : inside) {
            for (Method method : one.getDeclaredMethods()) {
                Check.due(one.getSimpleName() + "." + method.getName() + " has a name of its own",
                        face.contains(method.getName()), false);
            }
        }
        for (Member member : LevelNetwork.class.getDeclaredMethods()) {
            if (Modifier.isPrivate(member.getModifiers())) {
                Check.due(member.getName() + " has a name of its own", face.contains(member.getName()), false);
            }
        }
    }
}
