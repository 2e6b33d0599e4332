/** A compass that is off: a round is laid through its samples by least squares, exactly, in fractions. */
public final class CompassBias {
    public static final int UNKNOWN = -1, OUTSIDE = -2, STATE = -3, FULL = -4, NO = -5, NONE = -6;
    public static final long BELOW = -1000000000000000000L;

    private static final int MOST_SAMPLES = 10;
    private static final int ALL_SETS = 1 << MOST_SAMPLES;
    private static final int REACH = 40;
    private static final int SHIFT_OF_TOLD_PLACE = 100;
    private static final int EIGHTHS = 8;
    private static final int ALL_EIGHTHS = (1 << EIGHTHS) - 1;
    private static final int FIRST_NEED = 5;
    private static final int GREATEST_LIMIT = 9999;
    private static final int TRIM_KEEPS = 4;
    private static final int FEWEST_OF_A_ROUND = 3;
    // Euclid's steps for two longs stay below this.
    private static final int EUCLID_STEPS = 100;

    private final Samples now;
    private final Samples image0;
    private final Samples image1;
    private int keptImages;
    // Two rounds that are laid anew in each call, so that no call makes objects.
    private final Round theRound;
    private final Round trial;

    public CompassBias() {
        now = new Samples();
        image0 = new Samples();
        image1 = new Samples();
        keptImages = 0;
        theRound = new Round();
        trial = new Round();
    }

    // ---- 1 samples

    public int add(int x, int y) {
        if (!isPlace(x, y)) {
            return OUTSIDE;
        }
        int sample = now.many;
        if (sample < 0 || sample >= MOST_SAMPLES) {
            return FULL;
        }
        now.xs[sample] = x;
        now.ys[sample] = y;
        now.taken |= 1 << sample;
        now.many = sample + 1;
        return sample;
    }

    public int clear() {
        int were = now.many;
        now.many = 0;
        now.taken = 0;
        return were;
    }

    public int take(int sample, int is) {
        if (!isSample(sample)) {
            return UNKNOWN;
        }
        if (!isBetween(is, 0, 1)) {
            return OUTSIDE;
        }
        if (is == 1) {
            now.taken |= 1 << sample;
        } else {
            now.taken &= ~(1 << sample);
        }
        return Integer.bitCount(now.taken);
    }

    public int of(int sample, int what) {
        if (!isSample(sample)) {
            return UNKNOWN;
        }
        switch (what) {
            case 0:
                return now.xs[sample] + SHIFT_OF_TOLD_PLACE;
            case 1:
                return now.ys[sample] + SHIFT_OF_TOLD_PLACE;
            case 2:
                return isIn(now.taken, sample) ? 1 : 0;
            case 3:
                return powerAt(now.xs[sample], now.ys[sample]);
            default:
                return OUTSIDE;
        }
    }

    public long round(int what, int part) {
        if (!isBetween(what, 0, 2) || !isBetween(part, 0, 1)) {
            return BELOW + OUTSIDE;
        }
        layTheRound();
        if (theRound.isFlat()) {
            return BELOW + NO;
        }
        if (what == 2) {
            return partOfLowest(theRound.upperC, theRound.fullLower(), part);
        }
        return partOfLowest(what == 0 ? theRound.upperA : theRound.upperB, theRound.spread, part);
    }

    public long middle(int what, int part) {
        if (!isBetween(what, 0, 1) || !isBetween(part, 0, 1)) {
            return BELOW + OUTSIDE;
        }
        layTheRound();
        if (theRound.isFlat()) {
            return BELOW + NO;
        }
        return partOfLowest(what == 0 ? theRound.upperA : theRound.upperB, 2 * theRound.spread, part);
    }

    public long off(int sample, int part) {
        if (!isSample(sample)) {
            return BELOW + UNKNOWN;
        }
        if (!isBetween(part, 0, 1)) {
            return BELOW + OUTSIDE;
        }
        layTheRound();
        if (theRound.isFlat()) {
            return BELOW + NO;
        }
        long upper = theRound.offUpperAt(now.xs[sample], now.ys[sample]);
        return partOfLowest(upper, theRound.fullLower(), part);
    }

    public int worst(int what) {
        if (!isBetween(what, 0, 1)) {
            return OUTSIDE;
        }
        layTheRound();
        if (theRound.isFlat()) {
            return NO;
        }
        int sample = worstSample();
        if (what == 0) {
            return sample;
        }
        long lower = theRound.fullLower();
        return lower > 0 ? (int) (sizeUpper(theRound, sample) / lower) : 0;
    }

    // ---- 2 cover

    public int need(int v) {
        if (!isBetween(v, 1, EIGHTHS)) {
            return OUTSIDE;
        }
        int was = now.needed;
        now.needed = v;
        return was;
    }

    public int cover() {
        layTheRound();
        return theRound.isFlat() ? NO : coverBy(theRound);
    }

    public int poor() {
        layTheRound();
        return isTheRoundPoor() ? 1 : 0;
    }

    public int eighth(int sample) {
        if (!isSample(sample)) {
            return UNKNOWN;
        }
        layTheRound();
        return theRound.isFlat() ? NO : theRound.eighthAt(now.xs[sample], now.ys[sample]);
    }

    public int points(int x, int y) {
        if (!isPlace(x, y)) {
            return OUTSIDE;
        }
        layTheRound();
        return isTheRoundPoor() ? NO : theRound.eighthAt(x, y);
    }

    public int helps() {
        // Each sample lies in one eighth at most: too few samples can't cover what is needed.
        if (now.many >= MOST_SAMPLES || Integer.bitCount(now.taken) + 1 < now.needed) {
            return 0;
        }
        sumUp(theRound, now.taken);
        int found = 0;
        for (int x = -REACH; x <= REACH; x++) {
            for (int y = -REACH; y <= REACH && found != ALL_EIGHTHS; y++) {
                found |= helpAt(x, y, found);
            }
        }
        return found;
    }

    // ---- 3 left out

    public int trim(int limit) {
        if (!isBetween(limit, 0, GREATEST_LIMIT)) {
            return OUTSIDE;
        }
        layTheRound();
        if (theRound.isFlat()) {
            return NO;
        }
        int before = Integer.bitCount(now.taken);
        for (int step = 0; step < MOST_SAMPLES && isToTrim(limit); step++) {
            now.taken &= ~(1 << worstSample());
            layTheRound();
        }
        return before - Integer.bitCount(now.taken);
    }

    public int fewest(int limit, int what) {
        if (!isBetween(limit, 0, GREATEST_LIMIT) || !isBetween(what, 0, 1)) {
            return OUTSIDE;
        }
        int most = Integer.bitCount(now.taken) - FEWEST_OF_A_ROUND;
        for (int size = 0; size <= most; size++) {
            int leftOut = leastSetToLeaveOut(size, limit);
            if (leftOut != NONE) {
                return what == 0 ? size : leftOut;
            }
        }
        return NONE;
    }

    // ---- 4 images

    public int image(int k) {
        if (!isBetween(k, 0, 1)) {
            return OUTSIDE;
        }
        (k == 0 ? image0 : image1).become(now);
        keptImages |= 1 << k;
        return 1;
    }

    public int restore(int k) {
        if (!isBetween(k, 0, 1)) {
            return OUTSIDE;
        }
        if (!isIn(keptImages, k)) {
            return STATE;
        }
        now.become(k == 0 ? image0 : image1);
        return 1;
    }

    public int count(int what) {
        switch (what) {
            case 0:
                return now.many;
            case 1:
                return Integer.bitCount(now.taken);
            case 2:
                return now.taken;
            case 3:
                return now.needed;
            case 4:
                layTheRound();
                return theRound.isFlat() ? 1 : 0;
            case 5:
                return keptImages;
            default:
                return OUTSIDE;
        }
    }

    // ---- what the calls share

    private static boolean isBetween(int number, int least, int greatest) {
        return number >= least && number <= greatest;
    }

    private static boolean isPlace(int x, int y) {
        return isBetween(x, -REACH, REACH) && isBetween(y, -REACH, REACH);
    }

    private boolean isSample(int sample) {
        return sample >= 0 && sample < now.many && sample < MOST_SAMPLES;
    }

    private static boolean isIn(int set, int member) {
        return (set >> member & 1) == 1;
    }

    private static int powerAt(int x, int y) {
        return x * x + y * y;
    }

    private static long partOfLowest(long upper, long lower, int part) {
        long divisor = greatestDivisor(Math.abs(upper), lower);
        if (divisor <= 0) {
            return part;
        }
        return (part == 0 ? upper : lower) / divisor;
    }

    private static long greatestDivisor(long one, long other) {
        long a = one;
        long b = other;
        for (int step = 0; step < EUCLID_STEPS && b != 0; step++) {
            long rest = a % b;
            a = b;
            b = rest;
        }
        return a;
    }

    private void layTheRound() {
        sumUp(theRound, now.taken);
        theRound.lay();
    }

    private void sumUp(Round round, int set) {
        round.empty();
        for (int i = 0; i < MOST_SAMPLES; i++) {
            if (isIn(set, i)) {
                round.include(now.xs[i], now.ys[i]);
            }
        }
    }

    /** The size of OFF, as the upper number over the round's full lower one: all sizes of a round compare by it. */
    private long sizeUpper(Round round, int sample) {
        if (!isSample(sample)) {
            return 0;
        }
        return Math.abs(round.offUpperAt(now.xs[sample], now.ys[sample]));
    }

    private int worstSample() {
        int worst = 0;
        long greatest = -1;
        for (int i = 0; i < MOST_SAMPLES; i++) {
            if (isIn(now.taken, i)) {
                long size = sizeUpper(theRound, i);
                if (size > greatest) {
                    greatest = size;
                    worst = i;
                }
            }
        }
        return worst;
    }

    private int coverBy(Round round) {
        int cover = 0;
        for (int i = 0; i < MOST_SAMPLES; i++) {
            if (isIn(now.taken, i)) {
                cover |= setOfEighth(round.eighthAt(now.xs[i], now.ys[i]));
            }
        }
        return cover;
    }

    private static int setOfEighth(int eighth) {
        return eighth >= 0 ? 1 << eighth : 0;
    }

    private boolean isTheRoundPoor() {
        return theRound.isFlat() || Integer.bitCount(coverBy(theRound)) < now.needed;
    }

    /** The eighth, as a set, that a sample more at this place would help in, unless it is found already. */
    private int helpAt(int x, int y, int found) {
        trial.startFrom(theRound);
        trial.include(x, y);
        trial.lay();
        if (trial.isFlat()) {
            return 0;
        }
        int own = setOfEighth(trial.eighthAt(x, y));
        if ((own & ~found) == 0) {
            return 0;
        }
        int covered = Integer.bitCount(own | coverBy(trial));
        return covered >= now.needed ? own : 0;
    }

    private boolean isToTrim(int limit) {
        return Integer.bitCount(now.taken) > TRIM_KEEPS
            && !theRound.isFlat()
            && isSizeAbove(theRound, worstSample(), limit);
    }

    private boolean isSizeAbove(Round round, int sample, int limit) {
        return sizeUpper(round, sample) > limit * round.fullLower();
    }

    private int leastSetToLeaveOut(int size, int limit) {
        for (int set = 0; set < ALL_SETS; set++) {
            boolean fits = Integer.bitCount(set) == size && (set & ~now.taken) == 0;
            if (fits && isWithin(now.taken & ~set, limit)) {
                return set;
            }
        }
        return NONE;
    }

    private boolean isWithin(int set, int limit) {
        sumUp(trial, set);
        trial.lay();
        if (trial.isFlat()) {
            return false;
        }
        for (int i = 0; i < MOST_SAMPLES; i++) {
            if (isIn(set, i) && isSizeAbove(trial, i, limit)) {
                return false;
            }
        }
        return true;
    }

    /** All that an image keeps. */
    private static final class Samples {
        final int[] xs;
        final int[] ys;
        int many;
        int taken;
        int needed;

        Samples() {
            xs = new int[MOST_SAMPLES];
            ys = new int[MOST_SAMPLES];
            many = 0;
            taken = 0;
            needed = FIRST_NEED;
        }

        void become(Samples other) {
            for (int i = 0; i < MOST_SAMPLES; i++) {
                xs[i] = other.xs[i];
                ys[i] = other.ys[i];
            }
            many = other.many;
            taken = other.taken;
            needed = other.needed;
        }
    }

    /**
     * A round by the sums of its samples. With 10 samples of 40 at most
     * no number here comes near the end of a long: the greatest stay below 10 to the 17th.
     */
    private static final class Round {
        long many;
        long sumX;
        long sumY;
        long sumXX;
        long sumXY;
        long sumYY;
        long sumPower;
        long sumXPower;
        long sumYPower;
        // A and B are upperA and upperB by spread, C is upperC by the full lower number.
        long spread;
        long upperA;
        long upperB;
        long upperC;

        void empty() {
            many = 0;
            sumX = 0;
            sumY = 0;
            sumXX = 0;
            sumXY = 0;
            sumYY = 0;
            sumPower = 0;
            sumXPower = 0;
            sumYPower = 0;
        }

        void startFrom(Round other) {
            many = other.many;
            sumX = other.sumX;
            sumY = other.sumY;
            sumXX = other.sumXX;
            sumXY = other.sumXY;
            sumYY = other.sumYY;
            sumPower = other.sumPower;
            sumXPower = other.sumXPower;
            sumYPower = other.sumYPower;
        }

        void include(int x, int y) {
            int power = powerAt(x, y);
            many++;
            sumX += x;
            sumY += y;
            sumXX += x * x;
            sumXY += x * y;
            sumYY += y * y;
            sumPower += power;
            sumXPower += x * power;
            sumYPower += y * power;
        }

        /** Solves the normal equations, C taken out of them first: C is the mean of what A and B leave. */
        void lay() {
            long xx = many * sumXX - sumX * sumX;
            long xy = many * sumXY - sumX * sumY;
            long yy = many * sumYY - sumY * sumY;
            long xPower = many * sumXPower - sumX * sumPower;
            long yPower = many * sumYPower - sumY * sumPower;
            spread = xx * yy - xy * xy;
            upperA = xPower * yy - yPower * xy;
            upperB = yPower * xx - xPower * xy;
            upperC = sumPower * spread - upperA * sumX - upperB * sumY;
        }

        /** The spread is above 0, unless all samples lie on one straight line: then it is 0. */
        boolean isFlat() {
            return spread <= 0;
        }

        long fullLower() {
            return many * spread;
        }

        long offUpperAt(int x, int y) {
            return many * (powerAt(x, y) * spread - upperA * x - upperB * y) - upperC;
        }

        int eighthAt(int x, int y) {
            // Twice the spread is above 0 and keeps the direction, so no fraction is needed.
            return eighthTowards(2 * spread * x - upperA, 2 * spread * y - upperB);
        }

        private static int eighthTowards(long dx, long dy) {
            if (dy >= 0 && dx > dy) {
                return 0;
            }
            if (dx > 0 && dy >= dx) {
                return 1;
            }
            if (dx <= 0 && dy > -dx) {
                return 2;
            }
            if (dy > 0 && -dx >= dy) {
                return 3;
            }
            if (dy <= 0 && -dx > -dy) {
                return 4;
            }
            if (dx < 0 && -dy >= -dx) {
                return 5;
            }
            if (dx >= 0 && -dy > dx) {
                return 6;
            }
            if (dy < 0 && dx >= -dy) {
                return 7;
            }
            return NONE;
        }
    }
}
