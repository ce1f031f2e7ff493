import java.util.ArrayList;
import java.util.List;

/** Collects the calls whose answer is not the one that is due. */
final class Check {
    private final List<String> wrong = new ArrayList<>();
    private String part = "";
    private int made = 0;

    /** Names the part that the next calls belong to. */
    void part(String name) {
        part = name;
    }

    void due(String call, int got, int want) {
        made++;
        if (got != want) {
            wrong.add(part + ": " + call + " answered " + got + ", due is " + want);
        }
    }

    void holds(String what, boolean does) {
        made++;
        if (!does) {
            wrong.add(part + ": " + what);
        }
    }

    boolean isClean() {
        return wrong.isEmpty();
    }

    /** Tells all that is wrong; ends with exit code 1 if anything was. */
    void end(String name) {
        for (String line : wrong) {
            System.out.println(line);
        }
        System.out.println(name + ": " + made + " answers, " + wrong.size() + " not as due");
        if (made == 0 || !wrong.isEmpty()) {
            System.exit(1);
        }
    }
}
