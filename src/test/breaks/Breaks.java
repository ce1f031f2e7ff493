import java.io.ByteArrayOutputStream;
import java.io.IOException;
import java.io.OutputStream;
import java.net.URI;
import java.nio.file.Files;
import java.nio.file.Path;
import java.util.HashMap;
import java.util.HashSet;
import java.util.List;
import java.util.Map;
import java.util.Set;
import javax.tools.FileObject;
import javax.tools.ForwardingJavaFileManager;
import javax.tools.JavaCompiler;
import javax.tools.JavaFileObject;
import javax.tools.SimpleJavaFileObject;
import javax.tools.StandardJavaFileManager;
import javax.tools.ToolProvider;

/**
 * Shows that each sentence of EdgesTest has runs that fail when the sentence is broken: breaks
 * RainCells.java as breaks.txt says, one break at a time, and runs what the sentence has of its own.
 * By hand, from the project's root: src/test/breaks/run
 */
public final class Breaks {
    private static final Path SOURCE = Path.of("src/main/java/RainCells.java");
    private static final Path BREAKS = Path.of("src/test/breaks/breaks.txt");

    private final String source;
    private final List<Edges.Edge> edges = Edges.all();
    private final Set<String> broken = new HashSet<>();
    private int made = 0;
    private int wrong = 0;

    private Breaks(String source) {
        this.source = source;
    }

    public static void main(String[] args) throws IOException {
        Breaks breaks = new Breaks(oneLine(Files.readString(SOURCE)));
        breaks.all(Files.readAllLines(BREAKS));
        breaks.unbroken();
        System.out.println(breaks.made + " breaks, " + breaks.wrong + " not as due");
        System.exit(breaks.wrong == 0 ? 0 : 1);
    }

    private static String oneLine(String text) {
        return text.replaceAll("(?s)/\\*.*?\\*/", " ").replaceAll("//[^\n]*", " ").replaceAll("\\s+", " ");
    }

    private void tell(String what) {
        wrong++;
        System.out.println(what);
    }

    private void all(List<String> lines) {
        Edges.Edge edge = null;
        String from = "";
        for (String line : lines) {
            if (line.startsWith("# ")) {
                edge = edgeOf(line.substring(2));
            } else if (line.startsWith("- ")) {
                from = line.substring(2);
            } else if (line.startsWith("+") && edge != null) {
                one(edge, from, line.substring(1).trim());
            }
        }
    }

    private Edges.Edge edgeOf(String title) {
        for (Edges.Edge edge : edges) {
            if (title.startsWith(edge.where() + ": ") && edge.sentence().startsWith(title.substring(edge.where().length() + 2))) {
                broken.add(edge.name());
                return edge;
            }
        }
        tell("no such sentence: " + title);
        return null;
    }

    private void one(Edges.Edge edge, String from, String to) {
        made++;
        int at = source.indexOf(from);
        if (at < 0 || source.indexOf(from, at + 1) >= 0) {
            tell("stands not once: " + from);
            return;
        }
        Class<?> type = compiled(source.substring(0, at) + to + source.substring(at + from.length()));
        if (type == null) {
            tell("does not compile: " + to);
        } else if (holds(type, edge)) {
            tell("not noticed by " + edge.name() + ": " + to);
        }
    }

    private static boolean holds(Class<?> type, Edges.Edge edge) {
        Check check = new Check();
        try {
            EdgesTest.run(check, type, edge);
        } catch (IllegalStateException e) {
            return false;  // the broken class threw
        }
        return check.isClean();
    }

    private void unbroken() {
        for (Edges.Edge edge : edges) {
            if (!broken.contains(edge.name())) {
                tell("never broken: " + edge.name());
            }
        }
    }

    private static Class<?> compiled(String text) {
        JavaCompiler compiler = ToolProvider.getSystemJavaCompiler();
        StandardJavaFileManager files = compiler.getStandardFileManager(null, null, null);
        Map<String, ByteArrayOutputStream> classes = new HashMap<>();
        boolean done = compiler.getTask(null, inMemory(files, classes), null, null, null, List.of(sourceOf(text))).call();
        return done ? loaded(classes) : null;
    }

    private static SimpleJavaFileObject sourceOf(String text) {
        return new SimpleJavaFileObject(URI.create("string:///RainCells.java"), JavaFileObject.Kind.SOURCE) {
            @Override public CharSequence getCharContent(boolean ignoreErrors) {
                return text;
            }
        };
    }

    private static ForwardingJavaFileManager<StandardJavaFileManager> inMemory(
            StandardJavaFileManager files, Map<String, ByteArrayOutputStream> classes) {
        return new ForwardingJavaFileManager<>(files) {
            @Override public JavaFileObject getJavaFileForOutput(Location where, String name, JavaFileObject.Kind kind, FileObject near) {
                return new SimpleJavaFileObject(URI.create("memory:///" + name + ".class"), kind) {
                    @Override public OutputStream openOutputStream() {
                        classes.put(name, new ByteArrayOutputStream());
                        return classes.get(name);
                    }
                };
            }
        };
    }

    private static Class<?> loaded(Map<String, ByteArrayOutputStream> classes) {
        ClassLoader loader = new ClassLoader(ClassLoader.getPlatformClassLoader()) {
            @Override protected Class<?> findClass(String name) throws ClassNotFoundException {
                if (!classes.containsKey(name)) {
                    throw new ClassNotFoundException(name);
                }
                byte[] code = classes.get(name).toByteArray();
                return defineClass(name, code, 0, code.length);
            }
        };
        try {
            return loader.loadClass("RainCells");
        } catch (ClassNotFoundException e) {
            throw new IllegalStateException(e);
        }
    }
}
