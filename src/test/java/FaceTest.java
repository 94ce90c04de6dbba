import java.lang.reflect.Constructor;
import java.lang.reflect.Field;
import java.lang.reflect.Method;
import java.lang.reflect.Modifier;
import java.util.Set;
import java.util.TreeSet;

/** The public face: the members of the document, and no other that is not private. */
public final class FaceTest {
    public static void main(String[] args) {
        Due due = new Due();
        due.is("the class's modifiers", Modifier.toString(ScriptText.class.getModifiers()), "public final");
        due.is("the constructors", constructors().toString(), "[public ScriptText()]");
        due.is("the methods", methods().toString(), face().toString());
        due.is("the fields that are not private", openFields().toString(), "[]");
        due.is("the nested classes", ScriptText.class.getDeclaredClasses().length, 0);
        due.end("FaceTest");
    }

    private static Set<String> face() {
        return new TreeSet<>(Set.of(
            "public boolean ScriptText.describe(int,int,int,int)",
            "public boolean ScriptText.insert(int,int,int)",
            "public boolean ScriptText.erase(int,int)",
            "public int ScriptText.normal(int,int)",
            "public boolean ScriptText.isNormal(int,int)",
            "public int ScriptText.cased(int,int)",
            "public int ScriptText.result(int)",
            "public boolean ScriptText.take(int)",
            "public int ScriptText.breaks(int,int)",
            "public int ScriptText.level(int,int,int)",
            "public int ScriptText.onPage(int,int,int)",
            "public int ScriptText.key(int,int,int)",
            "public int ScriptText.compare(int)",
            "public int ScriptText.search(int)"));
    }

    private static Set<String> constructors() {
        Set<String> found = new TreeSet<>();
        for (Constructor<?> c : ScriptText.class.getDeclaredConstructors()) {
            found.add(c.toString());
        }
        return found;
    }

    private static Set<String> methods() {
        Set<String> found = new TreeSet<>();
        for (Method m : ScriptText.class.getDeclaredMethods()) {
            if (!Modifier.isPrivate(m.getModifiers())) {
                found.add(m.toString());
            }
        }
        return found;
    }

    private static Set<String> openFields() {
        Set<String> found = new TreeSet<>();
        for (Field f : ScriptText.class.getDeclaredFields()) {
            if (!Modifier.isPrivate(f.getModifiers())) {
                found.add(f.toString());
            }
        }
        return found;
    }
}
