import java.lang.reflect.Constructor;
import java.lang.reflect.Field;
import java.lang.reflect.Method;
import java.lang.reflect.Modifier;
import java.nio.file.Files;
import java.nio.file.Path;
import java.util.ArrayList;
import java.util.List;
import java.util.Set;
import java.util.TreeSet;
import java.util.regex.Matcher;
import java.util.regex.Pattern;

/** The public face is the one that the document shows, with its names and in its order, and no more. */
public final class FaceTest {
    private final Checks checks = new Checks();
    private final Set<String> constants = new TreeSet<>();
    private final Set<String> methods = new TreeSet<>();
    private final List<String> heads = new ArrayList<>();

    public static void main(String[] args) throws Exception {
        FaceTest t = new FaceTest();
        t.readDocument(Files.readString(Path.of("../shared/DOC.md")));
        t.classItself();
        t.methods();
        t.constants();
        t.source(Files.readString(Path.of("src/main/java/VouchFlow.java")));
        t.checks.end();
    }

    private void readDocument(String document) {
        checks.part("the document");
        Matcher block = Pattern.compile("(?s)```java\npublic final class VouchFlow \\{\n(.*?)\n\\}\n```").matcher(document);
        checks.holds("it shows a face", block.find());
        for (String line : block.group(1).split("\n")) {
            String head = line.strip().replace(";", "");
            if (head.startsWith("public static final int ")) {
                constants.addAll(List.of(head.replace("public static final int ", "").replace(" ", "").split(",")));
            } else {
                heads.add(head);
                methods.add(head.replaceFirst("public ", "").replaceAll("(\\w+) \\w+(?=[,)])", "$1").replace(", ", ","));
            }
        }
        methods.remove("VouchFlow()");
        checks.due("constants", constants.size(), 5);
        checks.due("methods", methods.size(), 25);
    }

    private void classItself() {
        checks.part("the class");
        checks.due("modifiers", VouchFlow.class.getModifiers(), Modifier.PUBLIC | Modifier.FINAL);
        Constructor<?>[] constructors = VouchFlow.class.getDeclaredConstructors();
        checks.due("constructors", constructors.length, 1);
        checks.holds("the constructor is public and takes nothing",
                Modifier.isPublic(constructors[0].getModifiers()) && constructors[0].getParameterCount() == 0);
        for (Class<?> one : VouchFlow.class.getDeclaredClasses()) {
            checks.holds("static and not public: " + one, Modifier.isStatic(one.getModifiers())
                    && !Modifier.isPublic(one.getModifiers()) && !Modifier.isProtected(one.getModifiers()));
        }
    }

    private void methods() {
        checks.part("methods");
        Set<String> seen = new TreeSet<>();
        Set<String> names = new TreeSet<>();
        for (Method m : VouchFlow.class.getDeclaredMethods()) {
            if (!Modifier.isPrivate(m.getModifiers())) {
                checks.due("modifiers of " + m, m.getModifiers(), Modifier.PUBLIC);
                seen.add(m.toString().replace("public ", "").replace("VouchFlow.", ""));
                names.add(m.getName());
            }
        }
        checks.holds("those of the document: " + seen, seen.equals(methods));
        List<Class<?>> all = new ArrayList<>(List.of(VouchFlow.class.getDeclaredClasses()));
        all.add(VouchFlow.class);
        for (Class<?> one : all) {
            for (Method m : one.getDeclaredMethods()) {
                boolean shown = one == VouchFlow.class && Modifier.isPublic(m.getModifiers());
                checks.holds(m + " has a name of its own", shown || !names.contains(m.getName()));
            }
        }
    }

    private void constants() throws IllegalAccessException {
        checks.part("constants");
        Set<String> seen = new TreeSet<>();
        for (Field f : VouchFlow.class.getDeclaredFields()) {
            if (!Modifier.isPrivate(f.getModifiers())) {
                checks.due("modifiers of " + f.getName(), f.getModifiers(), Modifier.PUBLIC | Modifier.STATIC | Modifier.FINAL);
                seen.add(f.getName() + "=" + f.getInt(null));
            }
        }
        checks.holds("those of the document: " + seen, seen.equals(constants));
    }

    /** The names of parameters and the order are the document's too, so that both can be read side by side. */
    private void source(String source) {
        checks.part("source");
        int after = 0;
        for (String head : heads) {
            int place = source.indexOf("\n    " + head + " {\n", after);
            checks.holds("in its place: " + head, place >= after);
            after = Math.max(after, place);
        }
    }
}
