import java.lang.reflect.Constructor;
import java.lang.reflect.Field;
import java.lang.reflect.Method;
import java.lang.reflect.Modifier;
import java.util.Set;
import java.util.TreeSet;

/** The class shows the document's public face, whole, and nothing else. */
public final class FaceTest {
    private static final Set<String> FACE = Set.of(
            "public final class RunVectors",
            "public RunVectors()",
            "public int RunVectors.push(int,int,int)",
            "public int RunVectors.combine(int,int,int,int)",
            "public int RunVectors.change(int,int,int,int)",
            "public int RunVectors.length(int)",
            "public int RunVectors.at(int,int)",
            "public int RunVectors.stretches(int)",
            "public long RunVectors.sum(int)",
            "public int RunVectors.find(int,int,int)",
            "public int RunVectors.between(int,int,int)",
            "public int RunVectors.compare(int,int)");

    public static void main(String[] args) {
        Checks checks = new Checks();
        Set<String> shown = shown();
        for (String member : FACE) {
            if (!shown.contains(member)) {
                checks.say("missing: " + member);
            }
        }
        for (String member : shown) {
            if (!FACE.contains(member)) {
                checks.say("not in the document: " + member);
            }
        }
        checks.end();
    }

    private static Set<String> shown() {
        Class<?> face = RunVectors.class;
        Set<String> shown = new TreeSet<>();
        shown.add(face.toGenericString());
        for (Constructor<?> each : face.getDeclaredConstructors()) {
            addUnlessPrivate(shown, each.getModifiers(), each.toString());
        }
        for (Method each : face.getDeclaredMethods()) {
            addUnlessPrivate(shown, each.getModifiers(), each.toString());
        }
        for (Field each : face.getDeclaredFields()) {
            addUnlessPrivate(shown, each.getModifiers(), each.toString());
        }
        for (Class<?> each : face.getDeclaredClasses()) {
            shown.add(each.toGenericString());
        }
        return shown;
    }

    private static void addUnlessPrivate(Set<String> shown, int modifiers, String member) {
        if (!Modifier.isPrivate(modifiers)) {
            shown.add(member);
        }
    }
}
