import java.lang.reflect.Constructor;
import java.lang.reflect.Field;
import java.lang.reflect.Method;
import java.lang.reflect.Modifier;
import java.util.Set;
import java.util.TreeSet;

/** The class shows the members of the document and no other one. */
public final class FaceTest {
    public static void main(String[] args) {
        Set<String> want = new TreeSet<>(Set.of(
                "public static final int NONE", "public static final int FULL",
                "public PastMonitor(int)",
                "public int feed(int)", "public int back()", "public boolean complete()",
                "public int window()", "public int event(int)", "public int undo()",
                "public void restart()", "public int events()", "public boolean now()",
                "public boolean at(int)", "public int count()", "public int violation(int)",
                "public int streak()", "public boolean wouldHold(int)", "public int allowed()"));
        Set<String> got = face();
        for (String member : want) {
            Check.due("has " + member, got.contains(member), true);
        }
        for (String member : got) {
            Check.due("may show " + member, want.contains(member), true);
        }
        int modifiers = PastMonitor.class.getModifiers();
        Check.due("public class", Modifier.isPublic(modifiers), true);
        Check.due("final class", Modifier.isFinal(modifiers), true);
        Check.due("nested classes", PastMonitor.class.getDeclaredClasses().length, 0);
        Check.due("NONE", PastMonitor.NONE, -1);
        Check.due("FULL", PastMonitor.FULL, -2);
        Check.end();
    }

    private static Set<String> face() {
        Set<String> shown = new TreeSet<>();
        for (Field f : PastMonitor.class.getDeclaredFields()) {
            show(shown, f.getModifiers(), f.toString());
        }
        for (Constructor<?> c : PastMonitor.class.getDeclaredConstructors()) {
            show(shown, c.getModifiers(), c.toString());
        }
        for (Method m : PastMonitor.class.getDeclaredMethods()) {
            show(shown, m.getModifiers(), m.toString());
        }
        return shown;
    }

    private static void show(Set<String> shown, int modifiers, String member) {
        if (!Modifier.isPrivate(modifiers)) {
            shown.add(member.replace("PastMonitor.", ""));
        }
    }
}
