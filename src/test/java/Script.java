import java.lang.reflect.InvocationTargetException;
import java.lang.reflect.Method;
import java.util.regex.Matcher;
import java.util.regex.Pattern;

/**
 * Runs of calls written as text, each call with the answer that is due: "gauge(3, 4) = 0". Calls
 * stand on lines, or behind ';' on one line; "new" begins a new object; '#' begins a remark. The
 * constants of RainCells may stand by name for a number.
 */
final class Script {
    private static final Pattern CALL = Pattern.compile("(\\w+)\\(([^)]*)\\) = (\\S+)");

    private final Check check;
    private final Class<?> type;
    private Object cells;

    private Script(Check check, Class<?> type) {
        this.check = check;
        this.type = type;
        cells = made();
    }

    static void run(Check check, String part, String text) {
        run(check, RainCells.class, part, text);
    }

    /** The same with another class of the same face. */
    static void run(Check check, Class<?> type, String part, String text) {
        check.part(part);
        Script script = new Script(check, type);
        for (String line : text.split("\n")) {
            for (String step : line.replaceAll("#.*", "").split(";")) {
                if (!step.isBlank()) {
                    script.step(step.trim());
                }
            }
        }
    }

    private void step(String text) {
        if (text.equals("new")) {
            cells = made();
            return;
        }
        Matcher call = CALL.matcher(text);
        if (!call.matches()) {
            throw new IllegalStateException("not a call: " + text);
        }
        String arguments = call.group(2).trim();
        String[] words = arguments.isEmpty() ? new String[0] : arguments.split(",");
        Object[] numbers = new Object[words.length];
        Class<?>[] types = new Class<?>[words.length];
        for (int i = 0; i < words.length; i++) {
            numbers[i] = number(words[i].trim());
            types[i] = int.class;
        }
        check.due(text, answer(call.group(1), types, numbers), number(call.group(3)));
    }

    private Object made() {
        try {
            return type.getConstructor().newInstance();
        } catch (ReflectiveOperationException e) {
            throw new IllegalStateException("no object of " + type, e);
        }
    }

    private int answer(String name, Class<?>[] types, Object[] numbers) {
        try {
            Method method = type.getMethod(name, types);
            return (Integer) method.invoke(cells, numbers);
        } catch (InvocationTargetException e) {
            throw new IllegalStateException(name + " threw", e.getCause());
        } catch (ReflectiveOperationException e) {
            throw new IllegalStateException("no such call: " + name, e);
        }
    }

    private static int number(String word) {
        return switch (word) {
            case "UNKNOWN" -> RainCells.UNKNOWN;
            case "OUTSIDE" -> RainCells.OUTSIDE;
            case "STATE" -> RainCells.STATE;
            case "FULL" -> RainCells.FULL;
            case "NO" -> RainCells.NO;
            case "NONE" -> RainCells.NONE;
            case "MAX" -> Integer.MAX_VALUE;
            case "MIN" -> Integer.MIN_VALUE;
            default -> Integer.parseInt(word);
        };
    }
}
