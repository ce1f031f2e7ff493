/**
 * Rain over a catchment of small square plots, by gauges that fail and come back.
 *
 * <p>The words of the document (PLOT, GAUGE, CELL, FIELD ..) are used here in its sense. All rows
 * are made with the object and used again, so that no call makes an object or an array.
 */
public final class RainCells {
    public static final int UNKNOWN = -1, OUTSIDE = -2, STATE = -3, FULL = -4, NO = -5, NONE = -6;

    private static final int SIDE = 16;
    private static final int PLOTS = SIDE * SIDE;
    private static final int GAUGES = 8;
    private static final int DAYS = 64;
    private static final int SETS = 6;
    private static final int IMAGES = 2;
    private static final int PLACE_LEAST = -20, PLACE_MOST = 35;
    private static final int REACH_MOST = 400;
    private static final int READING_MOST = 9999;
    private static final int ADDED = 1000;
    private static final int FIRST_FROM = 10, FIRST_TO = 30;
    private static final int NOBODY = -1;
    /** Above every FAR less a REACH, and above every SPREAD. */
    private static final int ENDLESS = 1000000000;

    private final Scene scene;
    private final Scene[] images;
    private int imagesKept;
    private final Store store;
    private final Search search;

    public RainCells() {
        scene = new Scene();
        images = new Scene[IMAGES];
        for (int k = 0; k < IMAGES; k++) {
            images[k] = new Scene();
        }
        imagesKept = 0;
        store = new Store();
        search = new Search();
    }

    // ---- 1 what there is

    public int row(int y, int from, int to) {
        if (!isPlot(from, y) || !isPlot(to, y)) {
            return OUTSIDE;
        }
        scene.rowFrom[y] = from;
        scene.rowTo[y] = to;
        store.letAllGo();
        return scene.plotCount();
    }

    public int gauge(int x, int y) {
        if (!isPlace(x, y)) {
            return OUTSIDE;
        }
        if (scene.gaugeAt(x, y) != NOBODY) {
            return NO;
        }
        if (scene.gauges >= GAUGES) {
            return FULL;
        }
        int g = scene.gauges;
        scene.gauges = g + 1;
        scene.placeX[g] = x;
        scene.placeY[g] = y;
        store.letAllGo();
        return g;
    }

    public int move(int g, int x, int y) {
        if (!scene.knows(g)) {
            return UNKNOWN;
        }
        if (!isPlace(x, y)) {
            return OUTSIDE;
        }
        int there = scene.gaugeAt(x, y);
        if (there != NOBODY && there != g) {
            return NO;
        }
        int far = scene.farFrom(g, x, y);
        scene.placeX[g] = x;
        scene.placeY[g] = y;
        store.letAllGo();
        return far;
    }

    public int reach(int g, int n) {
        if (!scene.knows(g)) {
            return UNKNOWN;
        }
        if (n < -REACH_MOST || n > REACH_MOST) {
            return OUTSIDE;
        }
        int before = scene.reaches[g];
        scene.reaches[g] = n;
        store.letAllGo();
        return before + ADDED;
    }

    public int fail(int g, int from, int to, int on) {
        if (!scene.knows(g)) {
            return UNKNOWN;
        }
        if (!areDays(from, to) || (on != 0 && on != 1)) {
            return OUTSIDE;
        }
        for (int day = from; day <= to; day++) {
            scene.putOut(g, day, on == 1);
        }
        return scene.daysOut(g);
    }

    public int rain(int g, int day, int n) {
        if (!scene.knows(g)) {
            return UNKNOWN;
        }
        if (!isDay(day) || (n != NONE && (n < 0 || n > READING_MOST))) {
            return OUTSIDE;
        }
        int before = scene.readingOf(g, day);
        scene.putReading(g, day, n);
        return before;
    }

    public int of(int g, int what) {
        if (!scene.knows(g)) {
            return UNKNOWN;
        }
        switch (what) {
            case 0: return scene.placeX[g] + ADDED;
            case 1: return scene.placeY[g] + ADDED;
            case 2: return scene.reaches[g] + ADDED;
            case 3: return scene.daysOut(g);
            case 4: return scene.daysRead(g);
            default: return OUTSIDE;
        }
    }

    public int reading(int g, int day) {
        if (!scene.knows(g)) {
            return UNKNOWN;
        }
        if (!isDay(day)) {
            return OUTSIDE;
        }
        return scene.readingOf(g, day);
    }

    public int working(int day) {
        if (!isDay(day)) {
            return OUTSIDE;
        }
        return scene.workingOn(day);
    }

    // ---- 2 cells

    public int owner(int day, int x, int y) {
        if (!isDay(day) || !isPlot(x, y)) {
            return OUTSIDE;
        }
        if (!scene.hasPlot(x, y)) {
            return NO;
        }
        int set = scene.workingOn(day);
        if (set == 0) {
            return NONE;
        }
        return store.lookUp(scene, set).ownerAt(x, y);
    }

    public int cell(int day, int g, int what) {
        if (!scene.knows(g)) {
            return UNKNOWN;
        }
        if (!isDay(day) || what < 0 || what > 3) {
            return OUTSIDE;
        }
        Cells cells = cellsOn(day);
        switch (what) {
            case 0: return cells.plots[g];
            case 1: return upper(cells.plots[g], scene.plotCount());
            case 2: return lower(cells.plots[g], scene.plotCount());
            default: return cells.fars[g];
        }
    }

    public int border(int day, int g, int h) {
        if (!scene.knows(g) || !scene.knows(h)) {
            return UNKNOWN;
        }
        if (!isDay(day)) {
            return OUTSIDE;
        }
        return cellsOn(day).sidesTo(g, g == h ? NOBODY : h);
    }

    public int neighbours(int day, int g) {
        if (!scene.knows(g)) {
            return UNKNOWN;
        }
        if (!isDay(day)) {
            return OUTSIDE;
        }
        return cellsOn(day).touching(g);
    }

    public int mean(int day, int what) {
        if (!isDay(day) || !isPart(what)) {
            return OUTSIDE;
        }
        if (!hasMean(day)) {
            return STATE;
        }
        return part(what, rainOn(day), scene.plotCount());
    }

    public int total(int from, int to, int what) {
        if (!areDays(from, to) || what < 0 || what > 2) {
            return OUTSIDE;
        }
        int sum = 0;
        int days = 0;
        for (int day = from; day <= to; day++) {
            if (hasMean(day)) {
                sum += rainOn(day);
                days++;
            }
        }
        return what == 2 ? days : part(what, sum, scene.plotCount());
    }

    public int spread(int day) {
        if (!isDay(day)) {
            return OUTSIDE;
        }
        int set = scene.workingOn(day);
        if (set == 0) {
            return NONE;
        }
        return store.lookUp(scene, set).farOfAll();
    }

    public int next(int day, int what) {
        if (!isDay(day) || what < 0 || what > 2) {
            return OUTSIDE;
        }
        search.run(scene, scene.workingOn(day));
        if (search.least == ENDLESS) {
            return NONE;
        }
        switch (what) {
            case 0: return search.leastX;
            case 1: return search.leastY;
            default: return search.least;
        }
    }

    // ---- 3 a gauge that is lost

    public int shared(int day, int g, int h) {
        if (!scene.knows(g) || !scene.knows(h)) {
            return UNKNOWN;
        }
        if (!isDay(day) || g == h) {
            return OUTSIDE;
        }
        int set = scene.workingOn(day);
        if (without(set, g) == 0) {
            return STATE;
        }
        Cells field = store.lookUp(scene, with(set, g));
        Cells others = store.lookUp(scene, without(set, g));
        return field.inBoth(g, others, h);
    }

    public int estimate(int day, int g, int what) {
        if (!scene.knows(g)) {
            return UNKNOWN;
        }
        if (!isDay(day) || !isPart(what)) {
            return OUTSIDE;
        }
        int set = scene.workingOn(day);
        if (without(set, g) == 0) {
            return STATE;
        }
        Cells field = store.lookUp(scene, with(set, g));
        Cells others = store.lookUp(scene, without(set, g));
        if (field.plots[g] == 0) {
            return NONE;
        }
        return part(what, rainOfOthers(day, g, field, others), field.plots[g]);
    }

    public int doubt(int day, int bar) {
        if (!isDay(day) || bar < 0 || bar > READING_MOST) {
            return OUTSIDE;
        }
        int set = scene.workingOn(day);
        int doubted = 0;
        for (int g = 0; g < scene.gauges; g++) {
            if (isIn(set, g) && without(set, g) != 0 && isDoubted(day, g, bar)) {
                doubted = with(doubted, g);
            }
        }
        return doubted;
    }

    // ---- 4 what is kept

    public int kept(int i) {
        if (i < 0 || i >= store.size) {
            return NONE;
        }
        return store.cells[i].set;
    }

    public int image(int k) {
        if (k < 0 || k >= IMAGES) {
            return OUTSIDE;
        }
        images[k].copyFrom(scene);
        imagesKept = with(imagesKept, k);
        return 1;
    }

    public int restore(int k) {
        if (k < 0 || k >= IMAGES) {
            return OUTSIDE;
        }
        if (!isIn(imagesKept, k)) {
            return STATE;
        }
        scene.copyFrom(images[k]);
        store.letAllGo();
        return 1;
    }

    public int count(int what) {
        if (what >= FIRST_FROM && what < FIRST_FROM + SIDE) {
            int y = what - FIRST_FROM;
            return scene.rowHasPlots(y) ? scene.rowFrom[y] : NONE;
        }
        if (what >= FIRST_TO && what < FIRST_TO + SIDE) {
            int y = what - FIRST_TO;
            return scene.rowHasPlots(y) ? scene.rowTo[y] : NONE;
        }
        switch (what) {
            case 0: return scene.gauges;
            case 1: return scene.plotCount();
            case 2: return store.size;
            case 3: return store.found;
            case 4: return store.workedOut;
            case 5: return store.replaced;
            case 6: return imagesKept;
            default: return OUTSIDE;
        }
    }

    // ---- what the calls have in common

    private static boolean isPlot(int x, int y) {
        return x >= 0 && x < SIDE && y >= 0 && y < SIDE;
    }

    private static boolean isPlace(int x, int y) {
        return x >= PLACE_LEAST && x <= PLACE_MOST && y >= PLACE_LEAST && y <= PLACE_MOST;
    }

    private static boolean isDay(int day) {
        return day >= 0 && day < DAYS;
    }

    private static boolean areDays(int from, int to) {
        return isDay(from) && isDay(to) && from <= to;
    }

    /** Whether a number names a part of a fraction: the upper number (0), the lower one (1). */
    private static boolean isPart(int what) {
        return what == 0 || what == 1;
    }

    private static boolean isIn(int set, int g) {
        return (set & (1 << g)) != 0;
    }

    private static int with(int set, int g) {
        return set | (1 << g);
    }

    private static int without(int set, int g) {
        return set & ~(1 << g);
    }

    private static int part(int what, int above, int below) {
        return what == 0 ? upper(above, below) : lower(above, below);
    }

    /** In lowest terms; 0 by 0 is told as 0 by 1 too: a CATCHMENT without a PLOT has WEIGHTS of 0. */
    private static int upper(int above, int below) {
        int divisor = commonDivisor(above, below);
        return divisor == 0 ? 0 : above / divisor;
    }

    private static int lower(int above, int below) {
        int divisor = commonDivisor(above, below);
        return divisor == 0 ? 1 : below / divisor;
    }

    /** Of two numbers from 0 on; no two ints need more than 46 steps. */
    private static int commonDivisor(int a, int b) {
        int greater = a;
        int smaller = b;
        for (int step = 0; step < 64 && smaller != 0; step++) {
            int rest = greater % smaller;
            greater = smaller;
            smaller = rest;
        }
        return greater;
    }

    /** The CELLS of a DAY; the empty set has cells too, but is never LOOKED UP. */
    private Cells cellsOn(int day) {
        int set = scene.workingOn(day);
        return set == 0 ? store.empty : store.lookUp(scene, set);
    }

    private boolean hasMean(int day) {
        return scene.workingOn(day) != 0 && scene.plotCount() > 0;
    }

    /** The upper number of the MEAN, before it is told in lowest terms. */
    private int rainOn(int day) {
        Cells cells = cellsOn(day);
        int sum = 0;
        for (int g = 0; g < scene.gauges; g++) {
            if (cells.plots[g] > 0) {
                sum += cells.plots[g] * scene.readingOf(g, day);
            }
        }
        return sum;
    }

    /** The upper number of the ESTIMATE of g, before it is told in lowest terms. */
    private int rainOfOthers(int day, int g, Cells field, Cells others) {
        int sum = 0;
        for (int p = 0; p < PLOTS; p++) {
            int h = others.owners[p];
            if (field.owners[p] == g && h != NOBODY) {
                sum += scene.readingOf(h, day);
            }
        }
        return sum;
    }

    private boolean isDoubted(int day, int g, int bar) {
        int set = scene.workingOn(day);
        Cells field = store.lookUp(scene, with(set, g));
        Cells others = store.lookUp(scene, without(set, g));
        int plots = field.plots[g];
        // Both sides times the PLOTS of the FIELD, so that nothing is rounded; with none of them
        // there is no ESTIMATE, and both sides are 0.
        int apart = scene.readingOf(g, day) * plots - rainOfOthers(day, g, field, others);
        return Math.abs(apart) > bar * plots;
    }

    /** All that an IMAGE keeps: CATCHMENT, GAUGES, when they are OUT, READINGS. */
    private static final class Scene {
        final int[] rowFrom = new int[SIDE];
        final int[] rowTo = new int[SIDE];
        int gauges = 0;
        final int[] placeX = new int[GAUGES];
        final int[] placeY = new int[GAUGES];
        final int[] reaches = new int[GAUGES];
        /** Of each GAUGE: bit d tells whether it is OUT on DAY d. */
        final long[] out = new long[GAUGES];
        final int[] readings = new int[GAUGES * DAYS];

        Scene() {
            for (int y = 0; y < SIDE; y++) {
                rowTo[y] = SIDE - 1;
            }
            for (int i = 0; i < GAUGES * DAYS; i++) {
                readings[i] = NONE;
            }
        }

        void copyFrom(Scene other) {
            System.arraycopy(other.rowFrom, 0, rowFrom, 0, SIDE);
            System.arraycopy(other.rowTo, 0, rowTo, 0, SIDE);
            gauges = other.gauges;
            System.arraycopy(other.placeX, 0, placeX, 0, GAUGES);
            System.arraycopy(other.placeY, 0, placeY, 0, GAUGES);
            System.arraycopy(other.reaches, 0, reaches, 0, GAUGES);
            System.arraycopy(other.out, 0, out, 0, GAUGES);
            System.arraycopy(other.readings, 0, readings, 0, GAUGES * DAYS);
        }

        boolean rowHasPlots(int y) {
            return rowFrom[y] <= rowTo[y];
        }

        boolean hasPlot(int x, int y) {
            return x >= rowFrom[y] && x <= rowTo[y];
        }

        int plotCount() {
            int plots = 0;
            for (int y = 0; y < SIDE; y++) {
                if (rowHasPlots(y)) {
                    plots += rowTo[y] - rowFrom[y] + 1;
                }
            }
            return plots;
        }

        boolean knows(int g) {
            return g >= 0 && g < gauges;
        }

        int gaugeAt(int x, int y) {
            for (int g = 0; g < gauges; g++) {
                if (placeX[g] == x && placeY[g] == y) {
                    return g;
                }
            }
            return NOBODY;
        }

        int farFrom(int g, int x, int y) {
            int dx = x - placeX[g];
            int dy = y - placeY[g];
            return dx * dx + dy * dy;
        }

        void putOut(int g, int day, boolean on) {
            long bit = 1L << day;
            out[g] = on ? out[g] | bit : out[g] & ~bit;
        }

        int daysOut(int g) {
            return Long.bitCount(out[g]);
        }

        int daysRead(int g) {
            int days = 0;
            for (int day = 0; day < DAYS; day++) {
                if (readingOf(g, day) != NONE) {
                    days++;
                }
            }
            return days;
        }

        int readingOf(int g, int day) {
            return readings[g * DAYS + day];
        }

        void putReading(int g, int day, int n) {
            readings[g * DAYS + day] = n;
        }

        int workingOn(int day) {
            int set = 0;
            for (int g = 0; g < gauges; g++) {
                boolean isOut = (out[g] & (1L << day)) != 0;
                if (!isOut && readingOf(g, day) != NONE) {
                    set = with(set, g);
                }
            }
            return set;
        }
    }

    /** The CELLS of all GAUGES by one set. */
    private static final class Cells {
        int set = 0;
        /** Of each PLOT which GAUGE HAS it; NOBODY, if it is not of the CATCHMENT. */
        final int[] owners = new int[PLOTS];
        final int[] plots = new int[GAUGES];
        /** Of each GAUGE how FAR its PLOTS are from it, all added. */
        final int[] fars = new int[GAUGES];

        Cells() {
            for (int p = 0; p < PLOTS; p++) {
                owners[p] = NOBODY;
            }
        }

        /** Leaves in lefts, for each PLOT of the CATCHMENT, how FAR less the REACH is left. */
        void workOut(Scene scene, int newSet, int[] lefts) {
            set = newSet;
            for (int p = 0; p < PLOTS; p++) {
                owners[p] = NOBODY;
                lefts[p] = ENDLESS;
            }
            // Rising, so that of as little the least GAUGE stays.
            for (int g = 0; g < scene.gauges; g++) {
                if (isIn(set, g)) {
                    claim(scene, g, lefts);
                }
            }
            for (int g = 0; g < GAUGES; g++) {
                plots[g] = 0;
                fars[g] = 0;
            }
            for (int p = 0; p < PLOTS; p++) {
                int g = owners[p];
                if (g != NOBODY) {
                    plots[g]++;
                    fars[g] += lefts[p] + scene.reaches[g];
                }
            }
        }

        private void claim(Scene scene, int g, int[] lefts) {
            int placeX = scene.placeX[g];
            for (int y = 0; y < SIDE; y++) {
                int dy = y - scene.placeY[g];
                int leftInY = dy * dy - scene.reaches[g];
                int to = scene.rowTo[y];
                for (int x = scene.rowFrom[y]; x <= to; x++) {
                    int dx = x - placeX;
                    int left = dx * dx + leftInY;
                    int p = y * SIDE + x;
                    if (left < lefts[p]) {
                        lefts[p] = left;
                        owners[p] = g;
                    }
                }
            }
        }

        int ownerAt(int x, int y) {
            return isPlot(x, y) ? owners[y * SIDE + x] : NOBODY;
        }

        int farOfAll() {
            int sum = 0;
            for (int g = 0; g < GAUGES; g++) {
                sum += fars[g];
            }
            return sum;
        }

        /** At how many sides of the PLOTS of g the next PLOT is had by h (or by NOBODY). */
        int sidesTo(int g, int h) {
            int sides = 0;
            for (int y = 0; y < SIDE; y++) {
                for (int x = 0; x < SIDE; x++) {
                    if (ownerAt(x, y) == g) {
                        sides += ownerAt(x - 1, y) == h ? 1 : 0;
                        sides += ownerAt(x + 1, y) == h ? 1 : 0;
                        sides += ownerAt(x, y - 1) == h ? 1 : 0;
                        sides += ownerAt(x, y + 1) == h ? 1 : 0;
                    }
                }
            }
            return sides;
        }

        /** The set of all others that HAVE a PLOT beside one of g. */
        int touching(int g) {
            int others = 0;
            for (int y = 0; y < SIDE; y++) {
                for (int x = 0; x < SIDE; x++) {
                    if (ownerAt(x, y) == g) {
                        others |= ownersAt(x - 1, y) | ownersAt(x + 1, y);
                        others |= ownersAt(x, y - 1) | ownersAt(x, y + 1);
                    }
                }
            }
            return without(others, g);
        }

        /** As a set: empty, where NOBODY is told. */
        private int ownersAt(int x, int y) {
            int g = ownerAt(x, y);
            return g == NOBODY ? 0 : with(0, g);
        }

        /** How many PLOTS g HAS here, and h HAS there. */
        int inBoth(int g, Cells there, int h) {
            int both = 0;
            for (int p = 0; p < PLOTS; p++) {
                if (owners[p] == g && there.owners[p] == h) {
                    both++;
                }
            }
            return both;
        }
    }

    /** The sets that are KEPT, from the one that was LOOKED UP longest ago. */
    private static final class Store {
        /** The first ones, as many as size tells, are KEPT; the others wait to be used. */
        final Cells[] cells = new Cells[SETS];
        int size = 0;
        int found = 0;
        int workedOut = 0;
        int replaced = 0;
        final Cells empty = new Cells();
        private final int[] lefts = new int[PLOTS];

        Store() {
            for (int i = 0; i < SETS; i++) {
                cells[i] = new Cells();
            }
        }

        void letAllGo() {
            size = 0;
        }

        /** What is handed out stays as it is while fewer than SETS others are LOOKED UP. */
        Cells lookUp(Scene scene, int set) {
            for (int i = 0; i < size; i++) {
                if (cells[i].set == set) {
                    found++;
                    return putLast(i);
                }
            }
            workedOut++;
            Cells fresh = room();
            fresh.workOut(scene, set, lefts);
            return fresh;
        }

        /** Cells to be written anew, at the last place. */
        private Cells room() {
            if (size < SETS) {
                size++;
                return cells[size - 1];
            }
            replaced++;
            return putLast(0);
        }

        private Cells putLast(int i) {
            Cells used = cells[i];
            for (int k = i; k < size - 1; k++) {
                cells[k] = cells[k + 1];
            }
            cells[size - 1] = used;
            return used;
        }
    }

    /** Looks for the PLOT at which one more GAUGE would make the SPREAD least. */
    private static final class Search {
        /** ENDLESS, if there is no PLOT at all. */
        int least = ENDLESS;
        int leastX = 0;
        int leastY = 0;
        private final Cells cells = new Cells();
        /** Of each PLOT: how FAR less the REACH, and how FAR, it is from the GAUGE that HAS it. */
        private final int[] lefts = new int[PLOTS];
        private final int[] fars = new int[PLOTS];
        /** Of each ROW: the greatest of its lefts, and all its fars added. */
        private final int[] rowMost = new int[SIDE];
        private final int[] rowFar = new int[SIDE];

        void run(Scene scene, int set) {
            // Not by the Store: this LOOKS nothing UP.
            cells.workOut(scene, set, lefts);
            for (int y = 0; y < SIDE; y++) {
                readRow(scene, y);
            }
            least = ENDLESS;
            for (int y = 0; y < SIDE; y++) {
                for (int x = scene.rowFrom[y]; x <= scene.rowTo[y]; x++) {
                    if (scene.gaugeAt(x, y) == NOBODY) {
                        tryAt(scene, x, y);
                    }
                }
            }
        }

        private void readRow(Scene scene, int y) {
            rowMost[y] = -ENDLESS;
            rowFar[y] = 0;
            for (int x = scene.rowFrom[y]; x <= scene.rowTo[y]; x++) {
                int p = y * SIDE + x;
                int g = cells.owners[p];
                fars[p] = g == NOBODY ? 0 : lefts[p] + scene.reaches[g];
                rowMost[y] = Math.max(rowMost[y], lefts[p]);
                rowFar[y] += fars[p];
            }
        }

        private void tryAt(Scene scene, int atX, int atY) {
            int sum = 0;
            // What is added is never below 0: once the sum is not less, it stays so.
            for (int y = 0; y < SIDE && sum < least; y++) {
                int dy = y - atY;
                sum += farOfRow(scene, y, atX, dy * dy);
            }
            if (sum < least) {
                least = sum;
                leastX = atX;
                leastY = atY;
            }
        }

        private int farOfRow(Scene scene, int y, int atX, int farInY) {
            if (farInY >= rowMost[y]) {
                // The new GAUGE HAS no PLOT of this ROW.
                return rowFar[y];
            }
            int sum = 0;
            for (int x = scene.rowFrom[y]; x <= scene.rowTo[y]; x++) {
                int p = y * SIDE + x;
                int dx = x - atX;
                int far = dx * dx + farInY;
                sum += far < lefts[p] ? far : fars[p];
            }
            return sum;
        }
    }
}
