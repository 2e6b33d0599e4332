import java.math.BigInteger;
import java.util.ArrayList;
import java.util.Arrays;
import java.util.List;
import java.util.Random;

/**
 * Random runs of calls, beside a slow model that is written from the document in another way: determinants of the
 * normal equations in BigIntegers, flatness by the cross products of all triples, sets as lists.
 */
public final class ModelTest {
    private static final int UNKNOWN = -1, OUTSIDE = -2, STATE = -3, FULL = -4, NO = -5, NONE = -6;
    private static final long BELOW = -1000000000000000000L;
    private static final int RUNS = 3000;
    private static final int CALLS = 120;
    private static final int HELPS = 700;

    /** How often each of what is rare was met: the runs are worth nothing where it never was. */
    private static final int[] met = new int[13];
    private static final String[] RARE = {"a sample on the middle", "points on the middle", "helps that are some, not all",
        "trim of two or more", "fewest of two or more", "tie for the worst", "off in fractions", "full", "helps with 9",
        "flat with five or more", "trim of ten down to four", "helps that are none, though enough are taken",
        "fewest down to three of six or more"};

    record Place(int x, int y) {
        long power() {
            return (long) x * x + (long) y * y;
        }
    }

    /** A, B and C over one lower number. */
    record Lain(BigInteger a, BigInteger b, BigInteger c, BigInteger lower) {
        BigInteger off(Place p) {
            return big(p.power()).multiply(lower).subtract(a.multiply(big(p.x))).subtract(b.multiply(big(p.y))).subtract(c);
        }

        int eighth(int x, int y) {
            BigInteger two = big(2);
            BigInteger dx = two.multiply(lower).multiply(big(x)).subtract(a);
            BigInteger dy = two.multiply(lower).multiply(big(y)).subtract(b);
            if (dx.signum() == 0 && dy.signum() == 0) {
                return NONE;
            }
            // A quarter turn back adds two eighths: turn until it lies in the first quarter, its upper side not included.
            int turned = 0;
            while (!(dx.signum() > 0 && dy.signum() >= 0)) {
                BigInteger was = dx;
                dx = dy;
                dy = was.negate();
                turned += 2;
            }
            return turned + (dy.compareTo(dx) >= 0 ? 1 : 0);
        }
    }

    static final class Model {
        List<Place> places = new ArrayList<>();
        List<Boolean> taken = new ArrayList<>();
        int need = 5;
        Model[] images = new Model[2];

        void become(Model m) {
            places = new ArrayList<>(m.places);
            taken = new ArrayList<>(m.taken);
            need = m.need;
        }

        List<Place> takenPlaces() {
            return placesBut(0);
        }

        List<Place> placesBut(int leftOut) {
            List<Place> all = new ArrayList<>();
            for (int i = 0; i < places.size(); i++) {
                if (taken.get(i) && (leftOut >> i & 1) == 0) {
                    all.add(places.get(i));
                }
            }
            return all;
        }

        int takenSet() {
            int set = 0;
            for (int i = 0; i < taken.size(); i++) {
                set += taken.get(i) ? 1 << i : 0;
            }
            return set;
        }
    }

    static BigInteger big(long v) {
        return BigInteger.valueOf(v);
    }

    static boolean isFlat(List<Place> s) {
        for (Place p : s) {
            for (Place q : s) {
                for (Place r : s) {
                    if ((q.x - p.x) * (r.y - p.y) != (q.y - p.y) * (r.x - p.x)) {
                        return false;
                    }
                }
            }
        }
        return true;
    }

    static BigInteger det(long[][] m) {
        BigInteger d = BigInteger.ZERO;
        for (int i = 0; i < 3; i++) {
            int j = (i + 1) % 3;
            int k = (i + 2) % 3;
            BigInteger minor = big(m[1][j]).multiply(big(m[2][k])).subtract(big(m[1][k]).multiply(big(m[2][j])));
            d = d.add(big(m[0][i]).multiply(minor));
        }
        return d;
    }

    static Lain lay(List<Place> s) {
        if (isFlat(s)) {
            return null;
        }
        long[][] normal = new long[3][4];
        for (Place p : s) {
            long[] row = {p.x, p.y, 1, p.power()};
            for (int i = 0; i < 3; i++) {
                for (int j = 0; j < 4; j++) {
                    normal[i][j] += row[i] * row[j];
                }
            }
        }
        BigInteger[] upper = new BigInteger[4];
        for (int out = 0; out < 4; out++) {
            long[][] m = new long[3][3];
            for (int i = 0; i < 3; i++) {
                for (int j = 0; j < 3; j++) {
                    m[i][j] = normal[i][j == out ? 3 : j];
                }
            }
            upper[out] = det(m);
        }
        if (upper[3].signum() <= 0) {
            throw new IllegalStateException("the model itself is wrong");
        }
        return new Lain(upper[0], upper[1], upper[2], upper[3]);
    }

    static long part(BigInteger upper, BigInteger lower, int part) {
        BigInteger divisor = upper.gcd(lower);
        return (part == 0 ? upper : lower).divide(divisor).longValueExact();
    }

    static int cover(List<Place> s, Lain r) {
        int set = 0;
        for (Place p : s) {
            int e = r.eighth(p.x, p.y);
            set |= e >= 0 ? 1 << e : 0;
        }
        return set;
    }

    static boolean isPoor(List<Place> s, Lain r, int need) {
        return r == null || Integer.bitCount(cover(s, r)) < need;
    }

    static boolean in(int v, int least, int most) {
        return v >= least && v <= most;
    }

    static int add(Model m, int x, int y) {
        if (!in(x, -40, 40) || !in(y, -40, 40)) {
            return OUTSIDE;
        }
        if (m.places.size() == 10) {
            met[7]++;
            return FULL;
        }
        m.places.add(new Place(x, y));
        m.taken.add(true);
        return m.places.size() - 1;
    }

    static int take(Model m, int sample, int is) {
        if (!in(sample, 0, m.places.size() - 1)) {
            return UNKNOWN;
        }
        if (!in(is, 0, 1)) {
            return OUTSIDE;
        }
        m.taken.set(sample, is == 1);
        return m.takenPlaces().size();
    }

    static int of(Model m, int sample, int what) {
        if (!in(sample, 0, m.places.size() - 1)) {
            return UNKNOWN;
        }
        if (!in(what, 0, 3)) {
            return OUTSIDE;
        }
        Place p = m.places.get(sample);
        int[] answers = {p.x + 100, p.y + 100, m.taken.get(sample) ? 1 : 0, (int) p.power()};
        return answers[what];
    }

    static long round(Model m, int what, int part) {
        if (!in(what, 0, 2) || !in(part, 0, 1)) {
            return BELOW + OUTSIDE;
        }
        Lain r = lay(m.takenPlaces());
        if (r == null) {
            return BELOW + NO;
        }
        BigInteger[] uppers = {r.a, r.b, r.c};
        return part(uppers[what], r.lower, part);
    }

    static long middle(Model m, int what, int part) {
        if (!in(what, 0, 1) || !in(part, 0, 1)) {
            return BELOW + OUTSIDE;
        }
        Lain r = lay(m.takenPlaces());
        if (r == null) {
            return BELOW + NO;
        }
        return part(what == 0 ? r.a : r.b, r.lower.add(r.lower), part);
    }

    static long off(Model m, int sample, int part) {
        if (!in(sample, 0, m.places.size() - 1)) {
            return BELOW + UNKNOWN;
        }
        if (!in(part, 0, 1)) {
            return BELOW + OUTSIDE;
        }
        Lain r = lay(m.takenPlaces());
        if (r == null) {
            return BELOW + NO;
        }
        long answer = part(r.off(m.places.get(sample)), r.lower, part);
        met[6] += part == 1 && answer > 1 ? 1 : 0;
        return answer;
    }

    static int worstSample(Model m, Lain r) {
        int worst = -1;
        BigInteger greatest = null;
        for (int i = m.places.size() - 1; i >= 0; i--) {
            if (m.taken.get(i)) {
                BigInteger size = r.off(m.places.get(i)).abs();
                if (greatest != null && size.equals(greatest) && size.signum() > 0) {
                    met[5]++;
                }
                if (greatest == null || size.compareTo(greatest) >= 0) {
                    greatest = size;
                    worst = i;
                }
            }
        }
        return worst;
    }

    static int worst(Model m, int what) {
        if (!in(what, 0, 1)) {
            return OUTSIDE;
        }
        Lain r = lay(m.takenPlaces());
        if (r == null) {
            return NO;
        }
        int sample = worstSample(m, r);
        return what == 0 ? sample : r.off(m.places.get(sample)).abs().divide(r.lower).intValueExact();
    }

    static int need(Model m, int v) {
        if (!in(v, 1, 8)) {
            return OUTSIDE;
        }
        int was = m.need;
        m.need = v;
        return was;
    }

    static int cover(Model m) {
        Lain r = lay(m.takenPlaces());
        return r == null ? NO : cover(m.takenPlaces(), r);
    }

    static int poor(Model m) {
        return isPoor(m.takenPlaces(), lay(m.takenPlaces()), m.need) ? 1 : 0;
    }

    static int eighth(Model m, int sample) {
        if (!in(sample, 0, m.places.size() - 1)) {
            return UNKNOWN;
        }
        Lain r = lay(m.takenPlaces());
        if (r == null) {
            return NO;
        }
        int answer = r.eighth(m.places.get(sample).x, m.places.get(sample).y);
        met[0] += answer == NONE ? 1 : 0;
        return answer;
    }

    static int points(Model m, int x, int y) {
        if (!in(x, -40, 40) || !in(y, -40, 40)) {
            return OUTSIDE;
        }
        Lain r = lay(m.takenPlaces());
        if (isPoor(m.takenPlaces(), r, m.need)) {
            return NO;
        }
        met[1] += r.eighth(x, y) == NONE ? 1 : 0;
        return r.eighth(x, y);
    }

    static int helps(Model m) {
        if (m.places.size() == 10) {
            return 0;
        }
        int set = 0;
        for (int x = -40; x <= 40; x++) {
            for (int y = -40; y <= 40; y++) {
                List<Place> s = m.takenPlaces();
                s.add(new Place(x, y));
                Lain r = lay(s);
                if (!isPoor(s, r, m.need)) {
                    int e = r.eighth(x, y);
                    set |= e >= 0 ? 1 << e : 0;
                }
            }
        }
        met[2] += set != 0 && set != 255 ? 1 : 0;
        met[11] += set == 0 && m.takenPlaces().size() + 1 >= Math.max(m.need, 3) ? 1 : 0;
        met[8] += set != 0 && m.places.size() == 9 ? 1 : 0;
        return set;
    }

    static boolean isAbove(Lain r, Place p, int limit) {
        return r.off(p).abs().compareTo(r.lower.multiply(big(limit))) > 0;
    }

    static int trim(Model m, int limit) {
        if (!in(limit, 0, 9999)) {
            return OUTSIDE;
        }
        if (isFlat(m.takenPlaces())) {
            return NO;
        }
        int out = 0;
        while (m.takenPlaces().size() > 4 && !isFlat(m.takenPlaces())) {
            Lain r = lay(m.takenPlaces());
            int worst = worstSample(m, r);
            if (!isAbove(r, m.places.get(worst), limit)) {
                break;
            }
            m.taken.set(worst, false);
            out++;
        }
        met[3] += out > 1 ? 1 : 0;
        met[10] += out == 6 ? 1 : 0;
        return out;
    }

    static int fewest(Model m, int limit, int what) {
        if (!in(limit, 0, 9999) || !in(what, 0, 1)) {
            return OUTSIDE;
        }
        int best = NONE;
        int few = 99;
        for (int out = 0; out < 1024; out++) {
            if ((out & ~m.takenSet()) == 0 && Integer.bitCount(out) < few) {
                List<Place> s = m.placesBut(out);
                Lain r = lay(s);
                boolean fits = r != null;
                for (Place p : s) {
                    fits = fits && !isAbove(r, p, limit);
                }
                if (fits) {
                    best = out;
                    few = Integer.bitCount(out);
                }
            }
        }
        met[4] += best != NONE && few > 1 ? 1 : 0;
        met[12] += few > 2 && few == m.takenPlaces().size() - 3 ? 1 : 0;
        return best == NONE ? NONE : what == 0 ? few : best;
    }

    static int image(Model m, int k) {
        if (!in(k, 0, 1)) {
            return OUTSIDE;
        }
        m.images[k] = new Model();
        m.images[k].become(m);
        return 1;
    }

    static int restore(Model m, int k) {
        if (!in(k, 0, 1)) {
            return OUTSIDE;
        }
        if (m.images[k] == null) {
            return STATE;
        }
        m.become(m.images[k]);
        return 1;
    }

    static int count(Model m, int what) {
        if (!in(what, 0, 5)) {
            return OUTSIDE;
        }
        boolean flat = isFlat(m.takenPlaces());
        met[9] += what == 4 && flat && m.takenPlaces().size() > 4 ? 1 : 0;
        int images = (m.images[0] != null ? 1 : 0) + (m.images[1] != null ? 2 : 0);
        int[] answers = {m.places.size(), m.takenPlaces().size(), m.takenSet(), m.need, flat ? 1 : 0, images};
        return answers[what];
    }

    // ---- the runs

    private static final Random random = new Random(20261117);
    private static int helpsAsked = 0;
    private static int wrong = 0;

    /** Mostly within the bounds, now and then beside them or wildly off. */
    static int near(int least, int most) {
        int kind = random.nextInt(30);
        if (kind == 0) {
            return random.nextBoolean() ? least - 1 : most + 1;
        }
        if (kind == 1) {
            int[] wild = {Integer.MIN_VALUE, Integer.MAX_VALUE, -99999, 99999, -7, 77};
            return wild[random.nextInt(wild.length)];
        }
        if (kind == 2) {
            return random.nextBoolean() ? least : most;
        }
        return least + random.nextInt(most - least + 1);
    }

    /** A place of one of the kinds of runs: anywhere, close together, about a round, on a lattice, on a line. */
    static int[] place(int kind) {
        int[][] ring = {{5, 0}, {4, 3}, {3, 4}, {0, 5}, {-3, 4}, {-4, 3}, {-5, 0}, {-4, -3}, {-3, -4}, {0, -5}, {3, -4},
            {4, -3}};
        int[] at = ring[random.nextInt(ring.length)];
        int line = random.nextInt(21) - 10;
        boolean strays = random.nextInt(6) == 0;
        switch (strays ? 0 : kind) {
            case 1:
                return new int[] {near(-2, 2), near(-2, 2)};
            case 2:
                return new int[] {at[0] * 6 + 3, at[1] * 6 - 5};
            case 3:
                return new int[] {10 * near(-2, 2), 10 * near(-2, 2)};
            case 4:
                return new int[] {line * 2, line - 1};
            case 5:
                return new int[] {at[0], at[1]};
            case 6:
                return new int[] {38 + random.nextInt(3), -40 + random.nextInt(3)};
            default:
                return new int[] {near(-40, 40), near(-40, 40)};
        }
    }

    static int limit() {
        int[] most = {0, 3, 30, 300, 3000, 9999};
        return near(0, most[random.nextInt(most.length)]);
    }

    /** The middle, cut down to whole numbers, or a place beside it; where there is none, the other place. */
    static int[] nearMiddle(Model m, int[] other) {
        Lain r = lay(m.takenPlaces());
        if (r == null) {
            return other;
        }
        BigInteger lower = r.lower.add(r.lower);
        return new int[] {r.a.divide(lower).intValue() + random.nextInt(2), r.b.divide(lower).intValue() + random.nextInt(2)};
    }

    static void due(int run, String call, long got, long want) {
        if (got != want) {
            wrong++;
            System.out.println("run " + run + ": " + call + " answered " + got + ", due is " + want);
        }
    }

    static void step(int run, int kind, CompassBias c, Model m) {
        int sample = near(0, 9);
        int part = near(0, 1);
        int what = near(0, 2);
        int[] p = place(kind);
        switch (random.nextInt(27)) {
            case 0: case 1: case 2: case 3: case 4:
                if (random.nextInt(8) == 0) {
                    p = nearMiddle(m, p);
                }
                due(run, "add(" + p[0] + ", " + p[1] + ")", c.add(p[0], p[1]), add(m, p[0], p[1]));
                break;
            case 5:
                if (random.nextInt(6) == 0) {
                    int were = m.places.size();
                    m.places.clear();
                    m.taken.clear();
                    due(run, "clear()", c.clear(), were);
                }
                break;
            case 6: case 7:
                due(run, "take(" + sample + ", " + part + ")", c.take(sample, part), take(m, sample, part));
                break;
            case 8:
                due(run, "take(" + sample + ", 1)", c.take(sample, 1), take(m, sample, 1));
                break;
            case 9:
                int of = near(0, 3);
                due(run, "of(" + sample + ", " + of + ")", c.of(sample, of), of(m, sample, of));
                break;
            case 10: case 11:
                due(run, "round(" + what + ", " + part + ")", c.round(what, part), round(m, what, part));
                break;
            case 12:
                int axis = near(0, 1);
                due(run, "middle(" + axis + ", " + part + ")", c.middle(axis, part), middle(m, axis, part));
                break;
            case 13: case 14:
                due(run, "off(" + sample + ", " + part + ")", c.off(sample, part), off(m, sample, part));
                break;
            case 15: case 16:
                due(run, "worst(" + part + ")", c.worst(part), worst(m, part));
                break;
            default:
                laterStep(run, kind, c, m);
        }
    }

    static void laterStep(int run, int kind, CompassBias c, Model m) {
        int sample = near(0, 9);
        int part = near(0, 1);
        int[] p = place(kind);
        int limit = limit();
        switch (random.nextInt(13)) {
            case 0:
                int v = near(1, 8);
                due(run, "need(" + v + ")", c.need(v), need(m, v));
                break;
            case 1:
                due(run, "cover()", c.cover(), cover(m));
                break;
            case 2:
                due(run, "poor()", c.poor(), poor(m));
                break;
            case 3: case 4:
                due(run, "eighth(" + sample + ")", c.eighth(sample), eighth(m, sample));
                break;
            case 5: case 6:
                if (random.nextInt(3) == 0) {
                    p = nearMiddle(m, p);
                }
                due(run, "points(" + p[0] + ", " + p[1] + ")", c.points(p[0], p[1]), points(m, p[0], p[1]));
                break;
            case 7:
                due(run, "trim(" + limit + ")", c.trim(limit), trim(m, limit));
                break;
            case 8:
                due(run, "fewest(" + limit + ", " + part + ")", c.fewest(limit, part), fewest(m, limit, part));
                break;
            case 9:
                due(run, "image(" + part + ")", c.image(part), image(m, part));
                break;
            case 10:
                due(run, "restore(" + part + ")", c.restore(part), restore(m, part));
                break;
            case 11:
                int what = near(0, 5);
                due(run, "count(" + what + ")", c.count(what), count(m, what));
                break;
            default:
                if (helpsAsked < HELPS && random.nextInt(8) == 0) {
                    helpsAsked++;
                    due(run, "helps()", c.helps(), helps(m));
                }
        }
    }

    public static void main(String[] args) {
        for (int run = 0; run < RUNS && wrong < 20; run++) {
            CompassBias c = new CompassBias();
            Model m = new Model();
            for (int call = 0; call < CALLS; call++) {
                step(run, run % 7, c, m);
            }
            for (int what = 0; what < 6; what++) {
                due(run, "count(" + what + ") at the end", c.count(what), count(m, what));
            }
        }
        for (int i = 0; i < RARE.length; i++) {
            if (met[i] == 0) {
                wrong++;
                System.out.println("never met: " + RARE[i]);
            }
        }
        System.out.println("met: " + Arrays.toString(met));
        System.out.println("beside the model: " + RUNS + " runs, " + helpsAsked + " helps, " + wrong + " answers wrong");
        if (wrong != 0) {
            System.exit(1);
        }
    }
}
