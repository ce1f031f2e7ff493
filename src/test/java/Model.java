import java.math.BigInteger;
import java.util.ArrayList;
import java.util.HashSet;
import java.util.LinkedHashSet;
import java.util.List;
import java.util.Set;
import java.util.TreeSet;

/**
 * The document told again, word by word and without care for speed: nothing is kept but the list
 * of sets, everything is worked out from the definitions. It shares no code with RainCells.
 */
final class Model {
    static final int UNKNOWN = -1, OUTSIDE = -2, STATE = -3, FULL = -4, NO = -5, NONE = -6;

    record Plot(int x, int y) { }

    record Gauge(int x, int y, int reach, Set<Integer> out, Integer[] readings) {
        static Gauge at(int x, int y) {
            return new Gauge(x, y, 0, Set.of(), new Integer[64]);
        }

        int far(Plot p) {
            return Math.abs(p.x - x) * Math.abs(p.x - x) + Math.abs(p.y - y) * Math.abs(p.y - y);
        }
    }

    record World(List<Plot> catchment, List<Gauge> gauges) { }

    private World now;
    private final World[] images = new World[2];
    private final LinkedHashSet<Integer> kept = new LinkedHashSet<>();
    private int found, workedOut, went;

    Model() {
        List<Plot> all = new ArrayList<>();
        for (int y = 0; y <= 15; y++) {
            for (int x = 0; x <= 15; x++) {
                all.add(new Plot(x, y));
            }
        }
        now = new World(all, new ArrayList<>());
    }

    private boolean unknown(int g) {
        return g < 0 || g >= now.gauges.size();
    }

    private static boolean not(int n, int least, int most) {
        return n < least || n > most;
    }

    private void look(int set) {
        if (set == 0) {
            return;
        }
        if (kept.remove(set)) {
            found++;
        } else {
            workedOut++;
            if (kept.size() == 6) {
                kept.remove(kept.iterator().next());
                went++;
            }
        }
        kept.add(set);
    }

    private static boolean in(int set, int g) {
        return (set >> g) % 2 == 1;
    }

    private int has(int set, Plot p) {
        return has(now.gauges, set, p);
    }

    private static int has(List<Gauge> gauges, int set, Plot p) {
        int best = -1;
        for (int g = gauges.size() - 1; g >= 0; g--) {
            if (in(set, g) && (best < 0 || value(gauges.get(g), p) <= value(gauges.get(best), p))) {
                best = g;
            }
        }
        return best;
    }

    private static int value(Gauge g, Plot p) {
        return g.far(p) - g.reach;
    }

    private Set<Plot> cellOf(int g, int set) {
        Set<Plot> cell = new HashSet<>();
        for (Plot p : now.catchment) {
            if (set != 0 && has(set, p) == g) {
                cell.add(p);
            }
        }
        return cell;
    }

    private static int fraction(int what, long above, long below) {
        if (above == 0) {
            return what;
        }
        long gcd = BigInteger.valueOf(above).gcd(BigInteger.valueOf(below)).longValueExact();
        return (int) (what == 0 ? above / gcd : below / gcd);
    }

    int row(int y, int from, int to) {
        if (not(y, 0, 15) || not(from, 0, 15) || not(to, 0, 15)) return OUTSIDE;
        List<Plot> rest = new ArrayList<>();
        for (int v = 0; v <= 15; v++) {
            for (int x = 0; x <= 15; x++) {
                if (v == y ? x >= from && x <= to : now.catchment.contains(new Plot(x, v))) {
                    rest.add(new Plot(x, v));
                }
            }
        }
        now = new World(rest, now.gauges);
        kept.clear();
        return rest.size();
    }

    private int gaugeAt(int x, int y) {
        for (int g = 0; g < now.gauges.size(); g++) {
            if (now.gauges.get(g).x == x && now.gauges.get(g).y == y) return g;
        }
        return -1;
    }

    int gauge(int x, int y) {
        if (not(x, -20, 35) || not(y, -20, 35)) return OUTSIDE;
        if (gaugeAt(x, y) >= 0) return NO;
        if (now.gauges.size() == 8) return FULL;
        now.gauges.add(Gauge.at(x, y));
        kept.clear();
        return now.gauges.size() - 1;
    }

    int move(int g, int x, int y) {
        if (unknown(g)) return UNKNOWN;
        if (not(x, -20, 35) || not(y, -20, 35)) return OUTSIDE;
        if (gaugeAt(x, y) >= 0 && gaugeAt(x, y) != g) return NO;
        Gauge old = now.gauges.get(g);
        now.gauges.set(g, new Gauge(x, y, old.reach, old.out, old.readings));
        kept.clear();
        return old.far(new Plot(x, y));
    }

    int reach(int g, int n) {
        if (unknown(g)) return UNKNOWN;
        if (not(n, -400, 400)) return OUTSIDE;
        Gauge old = now.gauges.get(g);
        now.gauges.set(g, new Gauge(old.x, old.y, n, old.out, old.readings));
        kept.clear();
        return old.reach + 1000;
    }

    int fail(int g, int from, int to, int on) {
        if (unknown(g)) return UNKNOWN;
        if (not(from, 0, 63) || not(to, 0, 63) || from > to || not(on, 0, 1)) return OUTSIDE;
        Gauge old = now.gauges.get(g);
        Set<Integer> out = new TreeSet<>(old.out);
        for (int day = 0; day <= 63; day++) {
            if (day >= from && day <= to) {
                if (on == 1) out.add(day);
                else out.remove(day);
            }
        }
        now.gauges.set(g, new Gauge(old.x, old.y, old.reach, out, old.readings));
        return out.size();
    }

    int rain(int g, int day, int n) {
        if (unknown(g)) return UNKNOWN;
        if (not(day, 0, 63) || n != NONE && not(n, 0, 9999)) return OUTSIDE;
        int before = reading(g, day);
        Gauge old = now.gauges.get(g);
        Integer[] readings = old.readings.clone();
        readings[day] = n == NONE ? null : Integer.valueOf(n);
        now.gauges.set(g, new Gauge(old.x, old.y, old.reach, old.out, readings));
        return before;
    }

    int of(int g, int what) {
        if (unknown(g)) return UNKNOWN;
        Gauge it = now.gauges.get(g);
        int read = 0;
        for (Integer n : it.readings) {
            read += n == null ? 0 : 1;
        }
        int[] answers = {it.x + 1000, it.y + 1000, it.reach + 1000, it.out.size(), read};
        return not(what, 0, 4) ? OUTSIDE : answers[what];
    }

    int reading(int g, int day) {
        if (unknown(g)) return UNKNOWN;
        if (not(day, 0, 63)) return OUTSIDE;
        Integer n = now.gauges.get(g).readings[day];
        return n == null ? NONE : n;
    }

    int working(int day) {
        if (not(day, 0, 63)) return OUTSIDE;
        int set = 0;
        for (int g = 0; g < now.gauges.size(); g++) {
            Gauge it = now.gauges.get(g);
            if (!it.out.contains(day) && it.readings[day] != null) set += 1 << g;
        }
        return set;
    }

    int owner(int day, int x, int y) {
        if (not(day, 0, 63) || not(x, 0, 15) || not(y, 0, 15)) return OUTSIDE;
        if (!now.catchment.contains(new Plot(x, y))) return NO;
        look(working(day));
        return working(day) == 0 ? NONE : has(working(day), new Plot(x, y));
    }

    int cell(int day, int g, int what) {
        if (unknown(g)) return UNKNOWN;
        if (not(day, 0, 63) || not(what, 0, 3)) return OUTSIDE;
        look(working(day));
        Set<Plot> cell = cellOf(g, working(day));
        if (what == 0) return cell.size();
        if (what < 3) return fraction(what - 1, cell.size(), now.catchment.size());
        int sum = 0;
        for (Plot p : cell) {
            sum += now.gauges.get(g).far(p);
        }
        return sum;
    }

    private static boolean touch(Plot p, Plot q) {
        return Math.abs(p.x - q.x) + Math.abs(p.y - q.y) == 1;
    }

    int border(int day, int g, int h) {
        if (unknown(g) || unknown(h)) return UNKNOWN;
        if (not(day, 0, 63)) return OUTSIDE;
        look(working(day));
        int pairs = 0;
        for (Plot p : cellOf(g, working(day))) {
            if (g == h) {
                int inside = 0;
                for (Plot q : now.catchment) {
                    inside += touch(p, q) ? 1 : 0;
                }
                pairs += 4 - inside;
            } else {
                for (Plot q : cellOf(h, working(day))) {
                    pairs += touch(p, q) ? 1 : 0;
                }
            }
        }
        return pairs;
    }

    int neighbours(int day, int g) {
        if (unknown(g)) return UNKNOWN;
        if (not(day, 0, 63)) return OUTSIDE;
        look(working(day));
        int set = 0;
        for (int h = 0; h < now.gauges.size(); h++) {
            boolean touches = false;
            for (Plot p : cellOf(g, working(day))) {
                for (Plot q : cellOf(h, working(day))) {
                    touches |= touch(p, q);
                }
            }
            if (h != g && touches) set += 1 << h;
        }
        return set;
    }

    private boolean hasMean(int day) {
        return working(day) != 0 && !now.catchment.isEmpty();
    }

    private long meanAbove(int day) {
        long sum = 0;
        for (Plot p : now.catchment) {
            sum += reading(has(working(day), p), day);
        }
        return sum;
    }

    int mean(int day, int what) {
        if (not(day, 0, 63) || not(what, 0, 1)) return OUTSIDE;
        if (!hasMean(day)) return STATE;
        look(working(day));
        return fraction(what, meanAbove(day), now.catchment.size());
    }

    int total(int from, int to, int what) {
        if (not(from, 0, 63) || not(to, 0, 63) || from > to || not(what, 0, 2)) return OUTSIDE;
        long sum = 0;
        int days = 0;
        for (int day = from; day <= to; day++) {
            if (hasMean(day)) {
                look(working(day));
                sum += meanAbove(day);
                days++;
            }
        }
        return what == 2 ? days : fraction(what, sum, now.catchment.size());
    }

    private int spreadOf(List<Gauge> gauges, int set) {
        int sum = 0;
        for (Plot p : now.catchment) {
            sum += gauges.get(has(gauges, set, p)).far(p);
        }
        return sum;
    }

    int spread(int day) {
        if (not(day, 0, 63)) return OUTSIDE;
        look(working(day));
        return working(day) == 0 ? NONE : spreadOf(now.gauges, working(day));
    }

    int next(int day, int what) {
        if (not(day, 0, 63) || not(what, 0, 2)) return OUTSIDE;
        int[] best = null;
        for (Plot p : now.catchment) {
            if (gaugeAt(p.x, p.y) < 0) {
                List<Gauge> more = new ArrayList<>(now.gauges);
                more.add(Gauge.at(p.x, p.y));
                int spread = spreadOf(more, working(day) + (1 << now.gauges.size()));
                if (best == null || spread < best[2]) {
                    best = new int[] {p.x, p.y, spread};
                }
            }
        }
        return best == null ? NONE : best[what];
    }

    private int withG(int day, int g) {
        return in(working(day), g) ? working(day) : working(day) + (1 << g);
    }

    private int withoutG(int day, int g) {
        return withG(day, g) - (1 << g);
    }

    private void lookTwice(int day, int g) {
        look(withG(day, g));
        look(withoutG(day, g));
    }

    private int sharedOf(int day, int g, int h) {
        Set<Plot> both = cellOf(g, withG(day, g));
        both.retainAll(cellOf(h, withoutG(day, g)));
        return both.size();
    }

    int shared(int day, int g, int h) {
        if (unknown(g) || unknown(h)) return UNKNOWN;
        if (not(day, 0, 63) || g == h) return OUTSIDE;
        if (withoutG(day, g) == 0) return STATE;
        lookTwice(day, g);
        return in(working(day), h) ? sharedOf(day, g, h) : 0;
    }

    private long estimateAbove(int day, int g) {
        long sum = 0;
        for (int h = 0; h < now.gauges.size(); h++) {
            if (h != g && in(working(day), h)) {
                sum += (long) sharedOf(day, g, h) * reading(h, day);
            }
        }
        return sum;
    }

    int estimate(int day, int g, int what) {
        if (unknown(g)) return UNKNOWN;
        if (not(day, 0, 63) || not(what, 0, 1)) return OUTSIDE;
        if (withoutG(day, g) == 0) return STATE;
        lookTwice(day, g);
        int field = cellOf(g, withG(day, g)).size();
        return field == 0 ? NONE : fraction(what, estimateAbove(day, g), field);
    }

    int doubt(int day, int bar) {
        if (not(day, 0, 63) || not(bar, 0, 9999)) return OUTSIDE;
        int set = 0;
        for (int g = 0; g < now.gauges.size(); g++) {
            if (in(working(day), g) && withoutG(day, g) != 0) {
                lookTwice(day, g);
                int field = cellOf(g, withG(day, g)).size();
                long estimate = estimateAbove(day, g);
                boolean above = (long) (reading(g, day) - bar) * field > estimate;
                boolean below = (long) (reading(g, day) + bar) * field < estimate;
                if (field > 0 && (above || below)) set += 1 << g;
            }
        }
        return set;
    }

    int kept(int i) {
        return not(i, 0, kept.size() - 1) ? NONE : new ArrayList<>(kept).get(i);
    }

    int image(int k) {
        if (not(k, 0, 1)) return OUTSIDE;
        images[k] = new World(now.catchment, new ArrayList<>(now.gauges));
        return 1;
    }

    int restore(int k) {
        if (not(k, 0, 1)) return OUTSIDE;
        if (images[k] == null) return STATE;
        now = new World(images[k].catchment, new ArrayList<>(images[k].gauges));
        kept.clear();
        return 1;
    }

    int count(int what) {
        int firstOf = NONE;
        int lastOf = NONE;
        for (Plot p : now.catchment) {
            if (p.y == what - 10 && firstOf == NONE) firstOf = p.x;
            if (p.y == what - 30) lastOf = p.x;
        }
        if (what >= 10 && what <= 25) return firstOf;
        if (what >= 30 && what <= 45) return lastOf;
        int images = (this.images[0] == null ? 0 : 1) + (this.images[1] == null ? 0 : 2);
        int[] answers = {now.gauges.size(), now.catchment.size(), kept.size(), found, workedOut, went, images};
        return not(what, 0, 6) ? OUTSIDE : answers[what];
    }
}
