import java.util.ArrayList;
import java.util.Arrays;
import java.util.List;

/**
 * Every call with every mix of numbers at the edges, in several scenes: the answer is that of the
 * Model; and what is refused changes nothing of all that can be asked, and LOOKS nothing UP.
 */
public final class RefusedTest {
    /** For each call, in the order of Calls.NAMES, what its numbers are; see the edges below. */
    private static final String[] KINDS = {
        "PPP", "LL", "GLL", "GR", "GDDO", "GDN", "G4", "GD", "D", "DPP", "DG3", "DGG",
        "DG", "D1", "DD2", "D", "D2", "DGG", "DG1", "DB", "I", "K", "K", "C"};
    /** Two PLACES of the scenes are among the numbers of L: 3 4, and 14 15. */
    private static final int[] PLACES = {-21, -20, 3, 4, 14, 15, 35, 36};

    private final Check check;
    private final int[][] scene;
    private final List<int[][]> probes = probes();
    private final List<int[]> before = new ArrayList<>();
    private Model model;
    private int refused = 0;

    private RefusedTest(Check check, int[][] scene) {
        this.check = check;
        this.scene = scene;
        model = modelPlayed();
        for (int[][] probe : probes) {
            before.add(answers(played(), probe));
        }
    }

    private static int[] edges(char kind) {
        return switch (kind) {
            case 'P' -> new int[] {-1, 0, 15, 16, 256};
            case 'L' -> PLACES;
            case 'G' -> new int[] {-1, 0, 1, 2, 7, 8, 32};
            case 'R' -> new int[] {-401, -400, 0, 400, 401};
            case 'D' -> new int[] {-1, 0, 1, 63, 64};
            case 'O' -> new int[] {-1, 0, 1, 2};
            case 'N' -> new int[] {-7, -6, -5, -1, 0, 9999, 10000};
            case 'B' -> new int[] {-1, 0, 3, 9999, 10000};
            case 'I' -> new int[] {-1, 0, 1, 5, 6};
            case 'K' -> new int[] {-1, 0, 1, 2, 32};
            case 'C' -> new int[] {-1, 0, 1, 2, 3, 4, 5, 6, 7, 9, 10, 25, 26, 29, 30, 45, 46};
            default -> upTo(kind - '0');
        };
    }

    /** From -1 to one more than the most. */
    private static int[] upTo(int most) {
        int[] all = new int[most + 3];
        for (int i = 0; i < all.length; i++) {
            all[i] = i - 1;
        }
        return all;
    }

    private static int[] withExtremes(int[] numbers) {
        int[] all = Arrays.copyOf(numbers, numbers.length + 2);
        all[numbers.length] = Integer.MIN_VALUE;
        all[numbers.length + 1] = Integer.MAX_VALUE;
        return all;
    }

    /** All that can be asked without a LOOK UP, in probes that leave room for a scene below 512 calls. */
    private static List<int[][]> probes() {
        List<int[][]> all = new ArrayList<>();
        all.add(state().toArray(new int[0][]));
        for (int half = 0; half < 2; half++) {
            List<int[]> readings = new ArrayList<>();
            for (int i = 0; i < 256; i++) {
                readings.add(new int[] {7, half * 4 + i / 64, i % 64});
            }
            all.add(readings.toArray(new int[0][]));
        }
        for (int k = 0; k < 2; k++) {
            List<int[]> restored = state();
            restored.add(0, new int[] {22, k});
            all.add(restored.toArray(new int[0][]));
        }
        return all;
    }

    private static List<int[]> state() {
        List<int[]> calls = new ArrayList<>();
        for (int what = 0; what <= 45; what++) {
            calls.add(new int[] {23, what});
        }
        for (int i = 0; i <= 6; i++) {
            calls.add(new int[] {20, i});
        }
        for (int g = 0; g <= 8; g++) {
            for (int what = 0; what <= 4; what++) {
                calls.add(new int[] {6, g, what});
            }
        }
        for (int day = 0; day <= 63; day++) {
            calls.add(new int[] {8, day});
        }
        return calls;
    }

    private static int[] answers(RainCells cells, int[][] calls) {
        int[] all = new int[calls.length];
        for (int i = 0; i < calls.length; i++) {
            all[i] = Calls.ask(cells, calls[i]);
        }
        return all;
    }

    private RainCells played() {
        RainCells cells = new RainCells();
        answers(cells, scene);
        return cells;
    }

    private Model modelPlayed() {
        Model model = new Model();
        for (int[] c : scene) {
            Calls.ask(model, c);
        }
        return model;
    }

    private void everyMix(int call) {
        int[][] numbers = new int[KINDS[call].length()][];
        int mixes = 1;
        for (int i = 0; i < numbers.length; i++) {
            numbers[i] = withExtremes(edges(KINDS[call].charAt(i)));
            mixes *= numbers[i].length;
        }
        for (int mix = 0; mix < mixes; mix++) {
            int[] c = new int[numbers.length + 1];
            c[0] = call;
            int rest = mix;
            for (int i = 0; i < numbers.length; i++) {
                c[i + 1] = numbers[i][rest % numbers[i].length];
                rest /= numbers[i].length;
            }
            ask(c);
        }
    }

    private void ask(int[] c) {
        int want = Calls.ask(model, c);
        check.due(Calls.told(c), Calls.ask(played(), c), want);
        if (want >= 0 || want == Model.NONE) {
            model = modelPlayed();
            return;
        }
        refused++;
        for (int i = 0; i < probes.size(); i++) {
            RainCells cells = played();
            Calls.ask(cells, c);
            check.holds(Calls.told(c) + " is refused, but changes something", Arrays.equals(answers(cells, probes.get(i)), before.get(i)));
        }
    }

    private static void run(Check check, String part, int[][] scene) {
        check.part(part);
        RefusedTest test = new RefusedTest(check, scene);
        for (int call = 0; call < KINDS.length; call++) {
            test.everyMix(call);
        }
        check.holds("little is refused: " + test.refused, test.refused > 1000);
    }

    /** Two GAUGES, an IMAGE of one, ROWS that are short or empty, two sets KEPT; on DAY 63 one alone is WORKING. */
    private static int[][] two() {
        return new int[][] {
            {1, 3, 4}, {3, 0, 7}, {5, 0, 0, 10}, {21, 1}, {1, 14, 15}, {5, 1, 0, 9999}, {5, 0, 63, 0}, {4, 0, 5, 9, 1},
            {0, 0, 1, 0}, {0, 15, 15, 15}, {0, 3, 2, 9}, {15, 0}, {15, 63}, {15, 0}};
    }

    /** Eight GAUGES, both IMAGES, six sets KEPT, no DAY but 0 with a MEAN. */
    private static int[][] eight() {
        return new int[][] {
            {21, 0}, {1, 3, 4}, {1, 14, 15}, {1, 15, 14}, {1, -20, -20}, {1, 35, 35}, {1, 4, 3}, {1, -20, 35}, {1, 35, -20},
            {5, 0, 0, 1}, {5, 1, 0, 5}, {5, 2, 0, 9}, {5, 3, 0, 9999}, {5, 4, 0, 0}, {5, 5, 0, 3}, {5, 7, 0, 8}, {4, 7, 0, 63, 1}, {21, 1},
            {3, 3, -400}, {3, 4, 400}, {19, 0, 0}};
    }

    /** No PLOT: all ROWS are empty. */
    private static int[][] bare() {
        int[][] calls = new int[20][];
        for (int y = 0; y <= 15; y++) {
            calls[y] = new int[] {0, y, 15, y == 15 ? 14 : 0};
        }
        calls[16] = new int[] {1, 3, 4};
        calls[17] = new int[] {5, 0, 0, 6};
        calls[18] = new int[] {21, 0};
        calls[19] = new int[] {15, 0};
        return calls;
    }

    public static void main(String[] args) {
        Check check = new Check();
        run(check, "a new object", new int[0][]);
        run(check, "two GAUGES", two());
        run(check, "eight GAUGES", eight());
        run(check, "no PLOT", bare());
        check.end("RefusedTest");
    }
}
