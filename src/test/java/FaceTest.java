import java.lang.reflect.Constructor;
import java.lang.reflect.Field;
import java.lang.reflect.Method;
import java.lang.reflect.Modifier;
import java.nio.file.Files;
import java.nio.file.Path;
import java.util.List;
import java.util.Set;
import java.util.TreeSet;

/**
 * The public face: the members of the document, and no other that is not private. The arguments
 * are the paths of the source and of the document.
 */
public final class FaceTest {
    public static void main(String[] args) throws Exception {
        Due due = new Due();
        List<String> source = publicLines(Path.of(args[0]));
        List<String> document = publicLines(Path.of(args[1]));
        due.is("the public lines of the source", String.join("\n", source), String.join("\n", document));
        due.is("the lines of the face", document.size(), 16);
        due.is("the parent", ScriptText.class.getSuperclass().getName(), "java.lang.Object");
        due.is("the interfaces", ScriptText.class.getInterfaces().length, 0);
        due.is("the class's modifiers", Modifier.toString(ScriptText.class.getModifiers()), "public final");
        due.is("the constructors", constructors().toString(), "[public ScriptText()]");
        due.is("the methods", methods().toString(), face().toString());
        due.is("the fields that are not private", openFields().toString(), "[]");
        due.is("the nested classes", ScriptText.class.getDeclaredClasses().length, 0);
        due.end("FaceTest");
    }

    /** The lines that begin with public, without what ends them in a source or in the document. */
    private static List<String> publicLines(Path file) throws Exception {
        return Files.readAllLines(file).stream().map(String::strip).filter(line -> line.startsWith("public "))
            .map(line -> line.replaceAll("[ {;]+$", "")).toList();
    }

    private static Set<String> face() {
        return new TreeSet<>(Set.of(
            "public boolean ScriptText.describe(int,int,int,int)",
            "public boolean ScriptText.insert(int,int,int)",
            "public boolean ScriptText.erase(int,int)",
            "public int ScriptText.normal(int,int)",
            "public boolean ScriptText.isNormal(int,int)",
            "public int ScriptText.cased(int,int)",
            "public int ScriptText.result(int)",
            "public boolean ScriptText.take(int)",
            "public int ScriptText.breaks(int,int)",
            "public int ScriptText.level(int,int,int)",
            "public int ScriptText.onPage(int,int,int)",
            "public int ScriptText.key(int,int,int)",
            "public int ScriptText.compare(int)",
            "public int ScriptText.search(int)"));
    }

    private static Set<String> constructors() {
        Set<String> found = new TreeSet<>();
        for (Constructor<?> c : ScriptText.class.getDeclaredConstructors()) {
            found.add(c.toString());
        }
        return found;
    }

    private static Set<String> methods() {
        Set<String> found = new TreeSet<>();
        for (Method m : ScriptText.class.getDeclaredMethods()) {
            if (!Modifier.isPrivate(m.getModifiers())) {
                found.add(m.toString());
            }
        }
        return found;
    }

    private static Set<String> openFields() {
        Set<String> found = new TreeSet<>();
        for (Field f : ScriptText.class.getDeclaredFields()) {
            if (!Modifier.isPrivate(f.getModifiers())) {
                found.add(f.toString());
            }
        }
        return found;
    }
}
