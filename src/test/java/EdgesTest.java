import java.io.IOException;
import java.nio.file.Files;
import java.nio.file.Path;

/**
 * Each sentence of the document that names a boundary case (too small, too large, empty, full, a
 * wrap-around, a refused call), by runs of its own. With an argument, the path of the document: tells
 * which of the sentences do not stand in it, and what of its promises no sentence here tells.
 */
public final class EdgesTest {
    private EdgesTest() {
    }

    public static void main(String[] args) throws IOException {
        if (args.length > 0) {
            compare(Files.readString(Path.of(args[0])));
            return;
        }
        Check check = new Check();
        for (Edges.Edge edge : Edges.all()) {
            run(check, RainCells.class, edge);
        }
        check.end("EdgesTest");
    }

    static void run(Check check, Class<?> type, Edges.Edge edge) {
        for (int i = 0; i < edge.runs().length; i++) {
            Script.run(check, type, edge.name() + ", run " + (i + 1), edge.runs()[i]);
        }
    }

    private static void compare(String document) {
        String text = document.replaceAll("\\s+", " ");
        StringBuilder rest = new StringBuilder(text);
        for (Edges.Edge edge : Edges.all()) {
            int at = text.indexOf(edge.sentence(), Math.max(0, text.indexOf("## " + edge.where() + ":")));
            if (at < 0) {
                System.out.println("not in the document: " + edge.name());
            }
            for (int i = at; at >= 0 && i < at + edge.sentence().length(); i++) {
                rest.setCharAt(i, '~');
            }
        }
        String untold = rest.toString().replaceAll("~+", "\n~~~~\n");
        System.out.println(untold);
    }
}
