import java.lang.reflect.InvocationTargetException;
import java.lang.reflect.Method;
import java.lang.reflect.Modifier;
import java.util.ArrayList;
import java.util.Comparator;
import java.util.List;
import java.util.function.Supplier;

/** What an object answers to every question about its network, with every index: a text to compare. */
final class Snapshot {
    private static final List<Method> ASKING = asking();
    private static final int[] GREATEST = {20, 16, 4};
    /** An object may be asked 512 times in all; those that make it need some of these calls. */
    private static final int QUESTIONS = 300;

    private final Supplier<LevelNetwork> made;
    private final StringBuilder answers = new StringBuilder();
    private LevelNetwork x;
    private int asked = 0;

    private Snapshot(Supplier<LevelNetwork> made) {
        this.made = made;
    }

    /** The objects that are made are all alike. Neither their buffers nor errorPosition are asked for. */
    static String of(Supplier<LevelNetwork> made) {
        Snapshot snapshot = new Snapshot(made);
        for (Method method : ASKING) {
            snapshot.answers.append('\n').append(method.getName()).append(':');
            snapshot.ask(method, new Object[method.getParameterCount()], 0);
        }
        for (char letter = 'a'; letter <= 'z'; letter++) {
            int name = Check.name("" + letter);
            snapshot.answers.append(' ').append(snapshot.next().levelNamed(name)).append(snapshot.next().pointNamed(name));
        }
        return snapshot.answers.toString();
    }

    /** Tells the first question that is answered otherwise. */
    static void same(String what, String got, String want) {
        String[] gots = got.split("\n");
        String[] wants = want.split("\n");
        String differs = "nothing";
        for (int k = 0; k < gots.length && differs.equals("nothing"); k++) {
            if (!gots[k].equals(wants[k])) {
                differs = gots[k].replaceAll(":.*", "");
            }
        }
        Check.due(what + ", differs: " + differs, got.equals(want), true);
    }

    private static List<Method> asking() {
        List<Method> found = new ArrayList<>();
        for (Method method : LevelNetwork.class.getDeclaredMethods()) {
            boolean asks = !method.getName().matches(
                    "feed|load|errorPosition|undoCount|hold|release|set[RASC].*|addSetup|applyTest|adjust|undo|.*Named");
            if (Modifier.isPublic(method.getModifiers()) && asks) {
                found.add(method);
            }
        }
        found.sort(Comparator.comparing(Method::getName));
        return found;
    }

    private LevelNetwork next() {
        if (asked % QUESTIONS == 0) {
            x = made.get();
        }
        asked++;
        return x;
    }

    private void ask(Method method, Object[] given, int next) {
        if (next < given.length) {
            for (int value = -1; value <= GREATEST[next]; value++) {
                given[next] = value;
                ask(method, given, next + 1);
            }
            return;
        }
        try {
            answers.append(' ').append(method.invoke(next(), given));
        } catch (InvocationTargetException e) {
            answers.append(' ').append(e.getCause().getClass().getSimpleName());
        } catch (IllegalAccessException e) {
            throw new IllegalStateException(e);
        }
    }
}
