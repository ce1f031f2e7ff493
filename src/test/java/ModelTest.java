import java.util.ArrayList;
import java.util.List;
import java.util.Random;

/** Long runs of calls, the same on RainCells and on the Model: every answer must be the same. */
public final class ModelTest {
    private static final int RUNS = 240;
    private static final int CALLS = 512;
    private static final int[] WRONG = {-1, -2, -7, 8, 16, 64, 10000, 1 << 20, Integer.MAX_VALUE, Integer.MIN_VALUE};

    private final Random random;
    private final int days;
    private final int reachMost;
    private final int readingMost;
    private final boolean nearby;
    private final int wrongOneIn;
    private final int changeOneIn;
    private final boolean narrow;

    private ModelTest(int seed) {
        random = new Random(seed);
        days = new int[] {1, 2, 4, 64}[random.nextInt(4)];
        reachMost = new int[] {0, 3, 60, 400}[random.nextInt(4)];
        readingMost = new int[] {3, 60, 9999}[random.nextInt(3)];
        nearby = random.nextInt(3) > 0;
        wrongOneIn = new int[] {5, 25, 1000}[random.nextInt(3)];
        changeOneIn = new int[] {3, 12, 60}[random.nextInt(3)];
        narrow = random.nextInt(4) == 0;
    }

    private boolean oneIn(int n) {
        return random.nextInt(n) == 0;
    }

    private int number(int least, int most) {
        if (oneIn(wrongOneIn)) {
            int edge = random.nextInt(3);
            return edge == 0 ? least - 1 : edge == 1 ? most + 1 : WRONG[random.nextInt(WRONG.length)];
        }
        if (oneIn(12)) {
            return random.nextBoolean() ? least : most;
        }
        return least + random.nextInt(most - least + 1);
    }

    private int day() {
        return oneIn(40) ? number(0, 63) : number(0, days - 1);
    }

    private int aGauge(Model model) {
        return number(0, Math.max(0, model.count(0) - 1));
    }

    private int coordinate() {
        return nearby ? number(0, 15) : number(-20, 35);
    }

    private int aReading() {
        return oneIn(15) ? Model.NONE : number(0, readingMost);
    }

    /** A call's number and its arguments; the calls that change what there is are rarer. */
    private int[] call(Model model) {
        if (oneIn(changeOneIn)) {
            return switch (random.nextInt(8)) {
                case 0 -> new int[] {0, number(0, 15), number(0, 15), number(0, 15)};
                case 1 -> new int[] {1, coordinate(), coordinate()};
                case 2, 3 -> new int[] {2, aGauge(model), coordinate(), coordinate()};
                case 4, 5 -> new int[] {3, aGauge(model), number(-reachMost, reachMost)};
                case 6 -> new int[] {21, number(0, 1)};
                default -> oneIn(3) ? new int[] {22, number(0, 1)} : new int[] {21, number(0, 1)};
            };
        }
        int d = day();
        int g = aGauge(model);
        return switch (random.nextInt(24)) {
            case 0, 1 -> new int[] {4, g, d, oneIn(3) ? number(d, d + 3) : d, number(0, 1)};
            case 2, 3, 4 -> new int[] {5, g, d, aReading()};
            case 5 -> new int[] {6, g, number(0, 4)};
            case 6 -> new int[] {7, g, d};
            case 7 -> new int[] {8, d};
            case 8 -> new int[] {9, d, number(0, 15), number(0, 15)};
            case 9, 10 -> new int[] {10, d, g, number(0, 3)};
            case 11, 12 -> new int[] {11, d, g, aGauge(model)};
            case 13 -> new int[] {12, d, g};
            case 14 -> new int[] {13, d, number(0, 1)};
            case 15 -> oneIn(4) ? new int[] {14, day(), day(), number(0, 2)} : new int[] {14, d, number(d, d + 6), number(0, 2)};
            case 16 -> new int[] {15, d};
            case 17 -> oneIn(4) ? new int[] {16, d, number(0, 2)} : new int[] {15, d};
            case 18, 19 -> new int[] {17, d, g, aGauge(model)};
            case 20 -> new int[] {18, d, g, number(0, 1)};
            case 21 -> new int[] {19, d, number(0, oneIn(2) ? readingMost : 2)};
            case 22 -> new int[] {20, number(0, 5)};
            default -> oneIn(4) ? new int[] {23, number(10, 45)} : new int[] {23, number(0, 6)};
        };
    }

    /** So that most runs begin with something to ask about. */
    private List<int[]> opening() {
        List<int[]> calls = new ArrayList<>();
        int gauges = random.nextInt(9);
        for (int g = 0; g < gauges; g++) {
            calls.add(new int[] {1, coordinate(), coordinate()});
            for (int d = 0; d < Math.min(days, 16); d++) {
                if (random.nextInt(4) > 0) {
                    calls.add(new int[] {5, g, d, aReading()});
                }
            }
        }
        if (narrow) {
            boolean bare = random.nextBoolean();  // no PLOT, or a few in one ROW
            int only = random.nextInt(32);
            for (int y = 0; y <= 15; y++) {
                int from = random.nextInt(16);
                boolean empty = bare ? y != only : random.nextInt(3) > 0;
                calls.add(new int[] {0, y, empty ? 1 : from, empty ? 0 : Math.min(15, from + random.nextInt(4))});
            }
        }
        return calls;
    }

    private void run(Check check, int[][] seen) {
        RainCells cells = new RainCells();
        Model model = new Model();
        List<int[]> calls = opening();
        for (int i = 0; i < CALLS && check.isClean(); i++) {
            int[] c = i < calls.size() ? calls.get(i) : call(model);
            int want = Calls.ask(model, c);
            check.due("call " + i + ", " + Calls.told(c), Calls.ask(cells, c), want);
            seen[c[0]][want >= 0 ? 0 : -want]++;
        }
    }

    public static void main(String[] args) {
        int runs = args.length > 0 ? Integer.parseInt(args[0]) : RUNS;
        int first = args.length > 1 ? Integer.parseInt(args[1]) : 1;
        Check check = new Check();
        int[][] seen = new int[Calls.NAMES.length][7];
        for (int seed = first; seed < first + runs && check.isClean(); seed++) {
            check.part("run by seed " + seed);
            new ModelTest(seed).run(check, seen);
        }
        if (args.length > 2) {
            for (int i = 0; i < Calls.NAMES.length; i++) {
                System.out.println(Calls.NAMES[i] + " " + java.util.Arrays.toString(seen[i]));
            }
        }
        check.end("ModelTest");
    }
}
