/** Calls as rows of numbers: which call, then its arguments. */
final class Calls {
    static final String[] NAMES = {
        "row", "gauge", "move", "reach", "fail", "rain", "of", "reading", "working", "owner", "cell", "border",
        "neighbours", "mean", "total", "spread", "next", "shared", "estimate", "doubt", "kept", "image", "restore", "count"};

    private Calls() {
    }

    static int ask(RainCells x, int[] c) {
        return switch (c[0]) {
            case 0 -> x.row(c[1], c[2], c[3]);
            case 1 -> x.gauge(c[1], c[2]);
            case 2 -> x.move(c[1], c[2], c[3]);
            case 3 -> x.reach(c[1], c[2]);
            case 4 -> x.fail(c[1], c[2], c[3], c[4]);
            case 5 -> x.rain(c[1], c[2], c[3]);
            case 6 -> x.of(c[1], c[2]);
            case 7 -> x.reading(c[1], c[2]);
            case 8 -> x.working(c[1]);
            case 9 -> x.owner(c[1], c[2], c[3]);
            case 10 -> x.cell(c[1], c[2], c[3]);
            case 11 -> x.border(c[1], c[2], c[3]);
            case 12 -> x.neighbours(c[1], c[2]);
            case 13 -> x.mean(c[1], c[2]);
            case 14 -> x.total(c[1], c[2], c[3]);
            case 15 -> x.spread(c[1]);
            case 16 -> x.next(c[1], c[2]);
            case 17 -> x.shared(c[1], c[2], c[3]);
            case 18 -> x.estimate(c[1], c[2], c[3]);
            case 19 -> x.doubt(c[1], c[2]);
            case 20 -> x.kept(c[1]);
            case 21 -> x.image(c[1]);
            case 22 -> x.restore(c[1]);
            default -> x.count(c[1]);
        };
    }

    static int ask(Model x, int[] c) {
        return switch (c[0]) {
            case 0 -> x.row(c[1], c[2], c[3]);
            case 1 -> x.gauge(c[1], c[2]);
            case 2 -> x.move(c[1], c[2], c[3]);
            case 3 -> x.reach(c[1], c[2]);
            case 4 -> x.fail(c[1], c[2], c[3], c[4]);
            case 5 -> x.rain(c[1], c[2], c[3]);
            case 6 -> x.of(c[1], c[2]);
            case 7 -> x.reading(c[1], c[2]);
            case 8 -> x.working(c[1]);
            case 9 -> x.owner(c[1], c[2], c[3]);
            case 10 -> x.cell(c[1], c[2], c[3]);
            case 11 -> x.border(c[1], c[2], c[3]);
            case 12 -> x.neighbours(c[1], c[2]);
            case 13 -> x.mean(c[1], c[2]);
            case 14 -> x.total(c[1], c[2], c[3]);
            case 15 -> x.spread(c[1]);
            case 16 -> x.next(c[1], c[2]);
            case 17 -> x.shared(c[1], c[2], c[3]);
            case 18 -> x.estimate(c[1], c[2], c[3]);
            case 19 -> x.doubt(c[1], c[2]);
            case 20 -> x.kept(c[1]);
            case 21 -> x.image(c[1]);
            case 22 -> x.restore(c[1]);
            default -> x.count(c[1]);
        };
    }

    static String told(int[] c) {
        StringBuilder text = new StringBuilder(NAMES[c[0]]).append('(');
        for (int i = 1; i < c.length; i++) {
            text.append(i == 1 ? "" : ", ").append(c[i]);
        }
        return text.append(')').toString();
    }
}
