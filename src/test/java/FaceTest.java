import java.io.IOException;
import java.lang.reflect.Constructor;
import java.lang.reflect.Field;
import java.lang.reflect.Method;
import java.lang.reflect.Modifier;
import java.nio.file.Files;
import java.nio.file.Path;
import java.util.Set;
import java.util.TreeSet;

/** The face that the document tells, and those rules of LANGUAGE.md that can be seen from outside. */
public final class FaceTest {
    private static final Path SOURCE = Path.of("src/main/java/RainCells.java");
    private static final Set<String> CONSTANTS = Set.of("UNKNOWN", "OUTSIDE", "STATE", "FULL", "NO", "NONE");
    private static final Set<String> METHODS = Set.of(
        "row/3", "gauge/2", "move/3", "reach/2", "fail/4", "rain/3", "of/2", "reading/2", "working/1", "owner/3", "cell/3",
        "border/3", "neighbours/2", "mean/2", "total/3", "spread/1", "next/2", "shared/3", "estimate/3", "doubt/2",
        "kept/1", "image/1", "restore/1", "count/1");
    private static final String[] FORBIDDEN = {
        "\\bthrow", "\\btry\\b", "\\bcatch\\b", "\\bfinally\\b", "\\bsynchronized\\b", "\\bassert\\b", "->", "::", "Exact\\b",
        "\\bpackage\\b", "\\bprotected\\b", "static \\{", "\\bRandom\\b", "\\bnanoTime\\b", "\\bcurrentTimeMillis\\b", "\\bThread\\b",
        "java\\.(?!util\\.(ArrayList|List|Arrays|Iterator)\\b)"};

    private FaceTest() {
    }

    public static void main(String[] args) throws IOException {
        Check check = new Check();
        face(check);
        classesInside(check);
        source(check);
        check.end("FaceTest");
    }

    private static void face(Check check) {
        check.part("the face");
        Class<?> it = RainCells.class;
        check.holds("the class is not public and final", Modifier.isPublic(it.getModifiers()) && Modifier.isFinal(it.getModifiers()));
        Set<String> methods = new TreeSet<>();
        for (Method m : it.getDeclaredMethods()) {
            if (Modifier.isPublic(m.getModifiers())) {
                methods.add(m.getName() + "/" + m.getParameterCount());
                check.holds(m + " is static, or no int", !Modifier.isStatic(m.getModifiers()) && m.getReturnType() == int.class);
            } else {
                check.holds(m + " can be seen", Modifier.isPrivate(m.getModifiers()));
            }
        }
        check.holds("the methods are " + methods, methods.equals(new TreeSet<>(METHODS)));
        Set<String> constants = new TreeSet<>();
        for (Field f : it.getDeclaredFields()) {
            if (Modifier.isPublic(f.getModifiers())) {
                constants.add(f.getName());
            } else {
                check.holds(f + " can be seen", Modifier.isPrivate(f.getModifiers()));
            }
            check.holds(f + " is static and changes", !Modifier.isStatic(f.getModifiers()) || Modifier.isFinal(f.getModifiers()));
        }
        check.holds("the constants are " + constants, constants.equals(new TreeSet<>(CONSTANTS)));
        Constructor<?>[] constructors = it.getDeclaredConstructors();
        check.holds("not one public constructor", constructors.length == 1
            && Modifier.isPublic(constructors[0].getModifiers()) && constructors[0].getParameterCount() == 0);
    }

    private static void classesInside(Check check) {
        check.part("the classes inside");
        Class<?>[] inside = RainCells.class.getDeclaredClasses();
        check.holds("more than twelve classes", inside.length < 12);
        for (Class<?> c : inside) {
            check.holds(c + " is not static", Modifier.isStatic(c.getModifiers()));
            check.holds(c + " can be seen", !Modifier.isPublic(c.getModifiers()) && !Modifier.isProtected(c.getModifiers()));
            check.holds(c + " has too many fields", c.getDeclaredFields().length <= 20);
            for (Method m : c.getDeclaredMethods()) {
                check.holds(m + " has too many parameters", m.getParameterCount() <= 7);
                for (String name : METHODS) {
                    check.holds(m + " bears the name of a call", !name.startsWith(m.getName() + "/"));
                }
            }
        }
    }

    private static void source(Check check) throws IOException {
        check.part("the source");
        String text = Files.readString(SOURCE);
        for (char sign : text.toCharArray()) {
            check.holds("a sign beyond 126: " + (int) sign, sign <= 126);
        }
        check.holds("no source", text.length() > 1000);
        String code = text.replaceAll("(?s)/\\*.*?\\*/", "").replaceAll("//[^\n]*", "")
            .replaceAll("\\b(case [^>]*|default )->", "");  // a switch may have arrows, a lambda may not be
        for (String word : FORBIDDEN) {
            check.holds("it has " + word, !java.util.regex.Pattern.compile(word).matcher(code).find());
        }
    }
}
