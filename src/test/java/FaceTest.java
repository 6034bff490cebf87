import java.io.IOException;
import java.lang.reflect.Constructor;
import java.lang.reflect.Field;
import java.lang.reflect.Method;
import java.lang.reflect.Modifier;
import java.nio.file.Files;
import java.nio.file.Path;
import java.util.List;
import java.util.Set;
import java.util.TreeSet;
import java.util.regex.Matcher;
import java.util.regex.Pattern;

/** The public face is the document's, and the source keeps to the rules that a glance can check. */
public final class FaceTest {
    private static final Set<String> METHODS = Set.of("int letter(int)", "int blank()", "int fault()", "int circle()",
            "int ink(int)", "int kind(int,int)", "int as(int,int)", "int vouch(int,int)", "int recall(int,int)",
            "int bound(int,int)", "int about(int)", "int person(int,int)", "int vouches(int,int)", "int generous()",
            "int trust(int)", "int together(int)", "int cut(int)", "int apart(int)", "int without(int,int,int)",
            "int dearest()", "int chance(int,int,int)", "int thousandths(int,int)", "int order(int,int)",
            "int count(int)", "long digest()");
    private static final Set<String> CONSTANTS = Set.of("NONE=-1", "UNKNOWN=-101", "OUTSIDE=-102", "STATE=-103", "FULL=-104");
    private static final List<String> FORBIDDEN = List.of("throw", "throws", "try", "catch", "finally", "synchronized", "assert",
            "protected", "package", "native", "volatile", "transient", "strictfp", "System\\.out", "hashCode", "toString", "->", "::");

    private final Checks checks = new Checks();

    public static void main(String[] args) throws Exception {
        FaceTest t = new FaceTest();
        t.face();
        t.nestedClasses();
        t.source();
        t.checks.end();
    }

    private void face() throws IllegalAccessException {
        Class<?> face = VouchFlow.class;
        checks.part("face");
        checks.due("modifiers", face.getModifiers(), Modifier.PUBLIC | Modifier.FINAL);
        Constructor<?>[] constructors = face.getDeclaredConstructors();
        checks.due("constructors", constructors.length, 1);
        checks.holds("the constructor is public and takes nothing",
                Modifier.isPublic(constructors[0].getModifiers()) && constructors[0].getParameterCount() == 0);
        Set<String> methods = new TreeSet<>();
        Set<String> own = new TreeSet<>();
        for (Method m : face.getDeclaredMethods()) {
            if (Modifier.isPrivate(m.getModifiers())) {
                own.add(m.getName());
                continue;
            }
            // javac makes no bridges for nested classes in Java 17, so nothing else may be seen
            String signature = m.toString().replace("public ", "").replace("VouchFlow.", "");
            checks.holds("public: " + m, Modifier.isPublic(m.getModifiers()) && !Modifier.isStatic(m.getModifiers()));
            methods.add(signature);
        }
        checks.holds("methods: " + methods, methods.equals(METHODS));
        for (String name : own) {
            checks.holds("private " + name + " has a name of its own", methods.stream().noneMatch(m -> m.contains(" " + name + "(")));
        }
        Set<String> constants = new TreeSet<>();
        for (Field f : face.getDeclaredFields()) {
            if (!Modifier.isPrivate(f.getModifiers())) {
                checks.due("modifiers of " + f.getName(), f.getModifiers(), Modifier.PUBLIC | Modifier.STATIC | Modifier.FINAL);
                constants.add(f.getName() + "=" + f.getInt(null));
            } else if (Modifier.isStatic(f.getModifiers())) {
                checks.holds("final: " + f.getName(), Modifier.isFinal(f.getModifiers()));
            }
        }
        checks.holds("constants: " + constants, constants.equals(CONSTANTS));
    }

    private void nestedClasses() {
        checks.part("nested classes");
        Class<?>[] nested = VouchFlow.class.getDeclaredClasses();
        checks.holds("at most twelve", nested.length <= 12);
        for (Class<?> one : nested) {
            checks.holds("static: " + one, Modifier.isStatic(one.getModifiers()) && !Modifier.isPublic(one.getModifiers()));
            int fields = 0;
            for (Field f : one.getDeclaredFields()) {
                if (!Modifier.isStatic(f.getModifiers())) fields++;
            }
            checks.holds("at most twenty fields: " + one, fields <= 20);
        }
    }

    private void source() throws IOException {
        checks.part("source");
        String source = Files.readString(Path.of("src/main/java/VouchFlow.java"));
        String code = source.replaceAll("(?s)/\\*.*?\\*/", "").replaceAll("//[^\n]*", "");
        for (String word : FORBIDDEN) {
            String boundary = Character.isLetter(word.charAt(0)) ? "\\b" : "";
            checks.holds("no " + word, !Pattern.compile(boundary + word + boundary).matcher(code).find());
        }
        Matcher imports = Pattern.compile("(?m)^import (.*);$").matcher(code);
        while (imports.find()) {
            checks.holds("import " + imports.group(1), imports.group(1).equals("java.util.Arrays"));
        }
        checks.holds("signs 1 to 127 alone", source.chars().allMatch(c -> c > 0 && c < 128));
    }
}
