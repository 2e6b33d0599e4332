/** The document's terms at their boundaries, by sentence: refusals, fractions, FLAT, EIGHTHS, POOR, TRIM, FEWEST. */
public final class TermsTest {
    private static final int UNKNOWN = -1, OUTSIDE = -2, STATE = -3, FULL = -4, NO = -5, NONE = -6;
    private static final int[] SQUARE = {2, 2, -2, 2, -2, -2, 2, -2};
    private static final int[] UNIT = {0, 0, 1, 0, 0, 1, 1, 1};
    private static final int[] TEN_ANYWHERE = {33, -36, 14, 21, 33, -39, -14, 19, 22, -5, -20, -36, 26, 22, 1, -31, -9,
        6, -35, 13};

    interface Ask {
        long to(CompassBias c);
    }

    private static int checks = 0;
    private static int wrong = 0;
    private static String sentence = "";

    private static void due(String call, long got, long want) {
        checks++;
        if (got != want) {
            wrong++;
            System.out.println(sentence + ": " + call + " answered " + got + ", due is " + want);
        }
    }

    private static CompassBias with(int... places) {
        CompassBias c = new CompassBias();
        for (int i = 0; i + 1 < places.length; i += 2) {
            due("add of sample " + i / 2, c.add(places[i], places[i + 1]), i / 2);
        }
        return c;
    }

    /** A quarter turn to the left: what lay in eighth e lies in e + 2 then. */
    private static int[] turned(int... places) {
        int[] turned = new int[places.length];
        for (int i = 0; i + 1 < places.length; i += 2) {
            turned[i] = -places[i + 1];
            turned[i + 1] = places[i];
        }
        return turned;
    }

    private static void theFirstRefusalThatFits() {
        sentence = "refused calls answer the first that fits";
        CompassBias flat = with(0, 0, 1, 1, 2, 2);
        due("take(3, 2): UNKNOWN and OUTSIDE fit", flat.take(3, 2), UNKNOWN);
        due("of(3, 4): UNKNOWN and OUTSIDE fit", flat.of(3, 4), UNKNOWN);
        due("off(3, 2): UNKNOWN, OUTSIDE and NO fit", flat.off(3, 2), -1000000000000000001L);
        due("off(3, 0): UNKNOWN and NO fit", flat.off(3, 0), -1000000000000000001L);
        due("off(2, 2): OUTSIDE and NO fit", flat.off(2, 2), -1000000000000000002L);
        due("off(2, 0): NO fits", flat.off(2, 0), -1000000000000000005L);
        due("eighth(3): UNKNOWN and NO fit", flat.eighth(3), UNKNOWN);
        due("eighth(2): NO fits", flat.eighth(2), NO);
        due("round(3, 1): OUTSIDE and NO fit", flat.round(3, 1), -1000000000000000002L);
        due("round(2, 2): OUTSIDE and NO fit", flat.round(2, 2), -1000000000000000002L);
        due("middle(2, 1): OUTSIDE and NO fit", flat.middle(2, 1), -1000000000000000002L);
        due("middle(1, 2): OUTSIDE and NO fit", flat.middle(1, 2), -1000000000000000002L);
        due("worst(2): OUTSIDE and NO fit", flat.worst(2), OUTSIDE);
        due("points(41, 0): OUTSIDE and NO fit", flat.points(41, 0), OUTSIDE);
        due("trim(10000): OUTSIDE and NO fit", flat.trim(10000), OUTSIDE);
        due("restore(2): OUTSIDE, nothing is kept", flat.restore(2), OUTSIDE);
        due("restore(1): STATE", flat.restore(1), STATE);
        due("fewest(10000, 0): NONE only where no refusal fits", flat.fewest(10000, 0), OUTSIDE);
        due("fewest(0, 2): NONE only where no refusal fits", flat.fewest(0, 2), OUTSIDE);
        due("fewest(0, 0): no refusal fits", flat.fewest(0, 0), NONE);
        CompassBias full = with(TEN_ANYWHERE);
        due("add(41, 0): OUTSIDE and FULL fit", full.add(41, 0), OUTSIDE);
        due("add(0, -41): OUTSIDE and FULL fit", full.add(0, -41), OUTSIDE);
        due("add(40, -40): FULL fits", full.add(40, -40), FULL);
        CompassBias poor = with(SQUARE);
        due("points(0, 0) on the middle of a poor round: NO fits", poor.points(0, 0), NO);
        poor.need(4);
        due("points(0, 0): no refusal fits", poor.points(0, 0), NONE);
    }

    private static void belowAndTheRefusal() {
        sentence = "BELOW and one of these, added";
        CompassBias c = with(-40, -40, 39, 40, 38, 39, 40, -40, -40, 40);
        due("BELOW", CompassBias.BELOW, -1000000000000000000L);
        c.take(3, 0);
        c.take(4, 0);
        due("off(3, 0), far below 0 and no refusal", c.off(3, 0), -1004720);
        due("off(4, 0)", c.off(4, 0), 992240);
        due("round(1, 0), below 0 and no refusal", c.round(1, 0), -12403);
        due("middle(1, 0), below 0 and no refusal", c.middle(1, 0), -12403);
        due("off(5, 0)", c.off(5, 0), -1000000000000000001L);
        due("off(4, 2)", c.off(4, 2), -1000000000000000002L);
        c.take(0, 0);
        due("off(0, 0)", c.off(0, 0), -1000000000000000005L);
        due("round(0, 0)", c.round(0, 0), -1000000000000000005L);
        due("middle(0, 0)", c.middle(0, 0), -1000000000000000005L);
    }

    private static final String[] ASKED = {"count(4)", "round(0, 0)", "round(2, 1)", "middle(0, 1)", "off(0, 0)",
        "off(0, 1)", "worst(0)", "worst(1)", "cover()", "poor()", "eighth(1)", "points(4, 5)", "helps()",
        "fewest(0, 0)", "fewest(0, 1)", "trim(0)"};
    private static final Ask[] ASKS = {c -> c.count(4), c -> c.round(0, 0), c -> c.round(2, 1), c -> c.middle(0, 1),
        c -> c.off(0, 0), c -> c.off(0, 1), c -> c.worst(0), c -> c.worst(1), c -> c.cover(), c -> c.poor(),
        c -> c.eighth(1), c -> c.points(4, 5), c -> c.helps(), c -> c.fewest(0, 0), c -> c.fewest(0, 1),
        c -> c.trim(0)};

    private static void askAll(CompassBias c) {
        for (Ask ask : ASKS) {
            ask.to(c);
        }
    }

    /** Each is asked first after the change: none may go by what another one has found out. */
    private static void asThingsAre() {
        sentence = "all that is told is as things are when it is asked";
        long[] first = {0, 6, 1, 1, 0, 1, 0, 0, 85, 0, 2, 0, 255, 0, 0, 0};
        long[] withOneMore = {0, 54671, 711, 2844, -87290, 237, 0, 368, 49, 1, 4, NO, 254, 1, 16, 1};
        long below = -1000000000000000005L;
        long[] flat = {1, below, below, below, below, below, NO, NO, NO, 1, NO, NO, 0, NONE, NONE, NO};
        for (int i = 0; i < ASKS.length; i++) {
            CompassBias c = with(13, 5, 3, 15, -7, 5, 3, -5);
            c.need(4);
            due(ASKED[i], ASKS[i].to(c), first[i]);
            c.image(0);
            askAll(c);
            due("add(40, 40)", c.add(40, 40), 4);
            due(ASKED[i] + " with one more", ASKS[i].to(c), withOneMore[i]);
            askAll(c);
            c.restore(0);
            due(ASKED[i] + " restored", ASKS[i].to(c), first[i]);
            askAll(c);
            c.take(0, 0);
            c.take(2, 0);
            due(ASKED[i] + " by two", ASKS[i].to(c), flat[i]);
            askAll(c);
            c.take(2, 1);
            c.take(0, 1);
            due(ASKED[i] + ", all taken again", ASKS[i].to(c), first[i]);
        }
        CompassBias c = with(13, 5, 3, 15, -7, 5, 3, -5);
        due("poor(), need 5", c.poor(), 1);
        due("points(4, 5), need 5", c.points(4, 5), NO);
        c.need(4);
        due("poor(), need 4", c.poor(), 0);
        due("points(4, 5), need 4", c.points(4, 5), 0);
        c.clear();
        due("poor(), cleared", c.poor(), 1);
        due("fewest(0, 0), cleared", c.fewest(0, 0), NONE);
    }

    private static void fraction(String call, long upper, long lower, long wantUpper, long wantLower) {
        due(call + ", upper", upper, wantUpper);
        due(call + ", lower", lower, wantLower);
    }

    /** A, B, C and the middle's x and y, each an upper and a lower number. */
    private static void roundIs(CompassBias c, long... want) {
        for (int what = 0; what < 3; what++) {
            fraction("round(" + what + ")", c.round(what, 0), c.round(what, 1), want[2 * what], want[2 * what + 1]);
        }
        for (int what = 0; what < 2; what++) {
            int at = 6 + 2 * what;
            fraction("middle(" + what + ")", c.middle(what, 0), c.middle(what, 1), want[at], want[at + 1]);
        }
    }

    private static void offIs(CompassBias c, int sample, long upper, long lower) {
        fraction("off(" + sample + ")", c.off(sample, 0), c.off(sample, 1), upper, lower);
    }

    private static void fractionsInLowestTerms() {
        sentence = "fractions in lowest terms, the lower number above 0, of 0: 0 by 1";
        roundIs(with(SQUARE), 0, 1, 0, 1, 8, 1, 0, 1, 0, 1);
        roundIs(with(UNIT), 1, 1, 1, 1, 0, 1, 1, 2, 1, 2);
        roundIs(with(0, 0, 2, 0, 0, 2), 2, 1, 2, 1, 0, 1, 1, 1, 1, 1);
        CompassBias c = with(0, 0, 1, 1, 2, 2, 5, 2);
        roundIs(c, 65, 9, -29, 9, -2, 3, 65, 18, -29, 18);
        offIs(c, 0, 2, 3);
        offIs(c, 1, -4, 3);
        offIs(c, 3, 0, 1);
        // Halving an even upper number, an odd one, and where the lower number is even.
        fraction("middle", with(2, -2, 1, 1, -3, -3, 4, 0, 4, 3).middle(0, 0),
            with(2, -2, 1, 1, -3, -3, 4, 0, 4, 3).middle(0, 1), -2, 233);
        fraction("middle", with(4, -3, -3, -1, 1, -3, -3, 3).middle(0, 0),
            with(4, -3, -3, -1, 1, -3, -3, 3).middle(0, 1), 523, 350);
        c = with(-4, -3, -4, 2, -2, -4, 0, 0);
        fraction("round(0)", c.round(0, 0), c.round(0, 1), -53, 10);
        fraction("middle(0)", c.middle(0, 0), c.middle(0, 1), -53, 20);
    }

    private static void greatestNumbers() {
        sentence = "exactly, in fractions";
        CompassBias c = with(-40, -40, -35, 40, 22, 5, -40, -40, -40, 40, 20, -17, 22, -8, 21, 19, -40, -40, -40, 40);
        roundIs(c, -18827735315L, 453926068, -41640276, 113481517, 687743499301L, 453926068, -18827735315L, 907852136,
            -20820138, 113481517);
        offIs(c, 1, -28855324533L, 226963034);
        offIs(c, 5, -55011779, 19735916);
        c = with(40, -40, -40, 40, -40, 40, -40, -40, -40, -40, -40, -39, 39, -40, 40, -40, 39, 40, 40, 40);
        roundIs(c, -232894607, 1211621287, 94887927, 1211621287, 3849175729600L, 1211621287, -232894607, 2423242574L,
            94887927, 2423242574L);
        offIs(c, 5, -73320848000L, 1211621287);
        c = with(40, 40, -40, 40, 40, 39, 40, -40, -40, 40, -40, -39, 40, -40, -31, -40, 40, 40, -40, -40);
        roundIs(c, 1273160223, 1178015209, 1678837680, 1178015209, 3674615012442L, 1178015209, 1273160223, 2356030418L,
            839418840, 1178015209);
        offIs(c, 7, -551096588080L, 1178015209);
        offIs(c, 5, 16910219041L, 168287887);
        // The farthest middle that samples of -40 to 40 have.
        roundIs(with(38, 39, -39, -40, 0, 0, -39, -40), -240319, 1, 234233, 1, 0, 1, -240319, 2, 234233, 2);
    }

    private static void flatIs(int isFlat, int... places) {
        CompassBias c = with(places);
        due("count(4) of " + places.length / 2 + " samples", c.count(4), isFlat);
        due("round(0, 1) refused", c.round(0, 1) == -1000000000000000005L ? 1 : 0, isFlat);
        due("worst(0) refused", c.worst(0) == NO ? 1 : 0, isFlat);
        due("cover() refused", c.cover() == NO ? 1 : 0, isFlat);
        c.need(1);
        due("poor(), need 1", c.poor(), isFlat);
        due("trim(9999)", c.trim(9999), isFlat == 1 ? NO : 0);
        due("fewest(9999, 0)", c.fewest(9999, 0), isFlat == 1 ? NONE : 0);
    }

    private static void flat() {
        sentence = "FLAT: on one straight line, or fewer than three";
        flatIs(1);
        flatIs(1, 0, 0);
        flatIs(1, 40, -40, -40, 40);
        flatIs(1, 7, 7, 7, 7, 7, 7);
        flatIs(1, 7, 7, 7, 7, -3, 1);
        flatIs(1, -3, 1, 7, 7, -3, 1, 7, 7, 7, 7);
        flatIs(1, -40, 5, 0, 5, 40, 5);
        flatIs(1, 5, -40, 5, 0, 5, 40);
        flatIs(1, -40, -40, 0, 0, 40, 40);
        flatIs(1, -40, 40, 0, 0, 40, -40);
        flatIs(1, -40, -39, 0, 0, 40, 39);
        flatIs(1, 0, 0, 1, 3, 3, 9, -4, -12);
        flatIs(1, -40, -20, -30, -15, -20, -10, -10, -5, 0, 0, 8, 4, 10, 5, 20, 10, 30, 15, 40, 20);
        flatIs(0, 0, 0, 1, 0, 0, 1);
        flatIs(0, -40, -40, 0, 0, 40, 39);
        flatIs(0, -40, -40, 39, 40, 38, 39);
        flatIs(0, -40, 5, 0, 5, 40, 5, 0, 6);
        flatIs(0, 7, 7, 7, 7, -3, 1, -3, 2);
        flatIs(0, -40, -20, -30, -15, -20, -10, -10, -5, 0, 0, 8, 4, 10, 5, 20, 10, 30, 15, 40, 19);
        CompassBias c = with(0, 0, 1, 1, 2, 2, 3, 3, 1, 2);
        due("count(4), 4 lies beside the line", c.count(4), 0);
        c.take(4, 0);
        due("count(4), 4 left out", c.count(4), 1);
        c.take(4, 1);
        c.take(0, 0);
        c.take(3, 0);
        due("count(4) of three", c.count(4), 0);
        c.take(1, 0);
        due("count(4) of two", c.count(4), 1);
    }

    /** The document's list of the eighths, word by word; (0, 0) is in none. */
    private static int eighthTowards(int dx, int dy) {
        boolean[] is = {dy >= 0 && dx > dy, dx > 0 && dy >= dx, dx <= 0 && dy > -dx, dy > 0 && -dx >= dy,
            dy <= 0 && -dx > -dy, dx < 0 && -dy >= -dx, dx >= 0 && -dy > dx, dy < 0 && dx >= -dy};
        for (int e = 0; e < 8; e++) {
            if (is[e]) {
                return e;
            }
        }
        return NONE;
    }

    private static void eighthsOfAllPlaces() {
        sentence = "the edges of the EIGHTHS";
        for (int x = -40; x <= 40; x++) {
            CompassBias whole = with(SQUARE);
            CompassBias half = with(UNIT);
            whole.need(4);
            half.need(4);
            for (int y = -40; y <= 40; y++) {
                due("points(" + x + ", " + y + ") about (0, 0)", whole.points(x, y), eighthTowards(x, y));
                int want = eighthTowards(2 * x - 1, 2 * y - 1);
                due("points(" + x + ", " + y + ") about (1/2, 1/2)", half.points(x, y), want);
            }
        }
    }

    private static void eighthIs(int[] samples, int x, int y, int want) {
        int[] places = samples;
        int[] at = {x, y};
        int eighth = want;
        for (int turn = 0; turn < 4; turn++) {
            CompassBias c = with(places);
            c.need(1);
            due("points(" + at[0] + ", " + at[1] + ")", c.points(at[0], at[1]), eighth);
            places = turned(places);
            at = turned(at);
            eighth = (eighth + 2) % 8;
        }
    }

    private static void eighthsJustBesideAnEdge() {
        sentence = "the EIGHTH just beside an edge, or on it, by a middle in fractions";
        // The middle's x is 9 less 161/38378693, and 5 and 45/18831058.
        int[] lessThan9 = {35, 27, -25, 28, 32, 38, 35, -39, 3, 2, 29, 10, 37, -26, 34, 6, 37, -18};
        eighthIs(lessThan9, 9, 40, 1);
        eighthIs(lessThan9, 9, -40, 6);
        int[] moreThan5 = {36, -29, -30, 40, 8, -4, -28, -10, 6, -4, -11, -19, -14, 24};
        eighthIs(moreThan5, 5, 40, 2);
        eighthIs(moreThan5, 5, -40, 5);
        // The middle's x less its y is -5 less 143/25815211, and -12 and 5/1249383.
        int[] lessThanMinus5 = {24, 38, -6, -25, -36, 3, -13, -40, 4, -3};
        eighthIs(lessThanMinus5, 30, 35, 0);
        eighthIs(lessThanMinus5, -30, -25, 5);
        int[] moreThanMinus12 = {-18, 20, 13, 20, 15, 6, -7, 5, 20, 3};
        eighthIs(moreThanMinus12, 20, 32, 1);
        eighthIs(moreThanMinus12, -30, -18, 4);
        // On the edge itself: the middles are (-2, -11/18), (-3/10, 0), (-41/126, 85/126) and (19/6, -13/6).
        eighthIs(new int[] {-2, -2, -3, -2, -1, -2, -2, 1}, -2, 20, 2);
        eighthIs(new int[] {-2, -2, -3, -2, -1, -2, -2, 1}, -2, -20, 6);
        eighthIs(new int[] {3, -1, -2, 3, -2, -3}, 20, 0, 0);
        eighthIs(new int[] {3, -1, -2, 3, -2, -3}, -20, 0, 4);
        int[] upwards = {-2, 0, -1, -1, 1, 2, 0, 1, 1, 2};
        eighthIs(upwards, 20, 21, 1);
        eighthIs(upwards, -20, -19, 5);
        int[] downwards = {0, 2, -2, -3, -1, 1};
        eighthIs(downwards, -20, 21, 3);
        eighthIs(downwards, 20, -19, 7);
    }

    private static void poorIs(int cover, int... places) {
        int eighths = Integer.bitCount(cover);
        CompassBias c = with(places);
        due("cover()", c.cover(), cover);
        due("poor() with the first need", c.poor(), eighths < 5 ? 1 : 0);
        for (int need = 1; need <= 8; need++) {
            c.need(need);
            int poor = eighths < need ? 1 : 0;
            due("poor(), " + eighths + " eighths of " + need, c.poor(), poor);
            due("points(0, 0) refused, " + eighths + " eighths of " + need, c.points(0, 0) == NO ? 1 : 0, poor);
        }
    }

    private static void needAndPoor() {
        sentence = "POOR: FLAT, or COVER has fewer EIGHTHS than NEED";
        due("the first need", new CompassBias().count(3), 5);
        poorIs(64, 0, -4, -4, -5, 10, 1);
        poorIs(12, -8, -4, -2, 1, 1, 2);
        poorIs(168, 1, -2, 1, -1, 2, -2);
        poorIs(149, 2, 6, 5, -1, 9, -8, -4, -6);
        poorIs(167, 1, 7, 5, 0, -5, 4, -5, -10, 7, -7);
        poorIs(159, -2, 0, -2, 1, 0, 1, 0, 2, -2, 2, 1, 0);
        poorIs(239, -8, 3, -5, -7, -7, 10, 8, 5, 1, 9, 7, -1, 0, -5);
        poorIs(255, 1, 8, -9, 10, 5, 4, 2, -2, 5, -7, -8, -3, -4, -1, -8, 5);
        // The samples of one eighth count once, and one on the middle in none.
        poorIs(170, 2, 2, -2, 2, -2, -2, 2, -2, 2, 2, -2, -2, 0, 0, 0, 0);
        CompassBias c = with(0, 0, 1, 1, 2, 2, -5, -5);
        c.need(1);
        due("poor(), flat", c.poor(), 1);
        due("points(9, 9), flat", c.points(9, 9), NO);
    }

    private static void trims(CompassBias c, int limit, int many, int takenAfter) {
        due("trim(" + limit + ")", c.trim(limit), many);
        due("count(2) after trim(" + limit + ")", c.count(2), takenAfter);
    }

    private static void trimLeavesFour() {
        sentence = "TRIM: as long as more than 4 SAMPLES are TAKEN";
        CompassBias c = with(2, 2, -2, 2, -2, -2, 0, 1);
        trims(c, 0, 0, 15);
        due("worst(1) of the four, 56/11", c.worst(1), 5);
        c = with(2, 2, -2, 2, -2, -2, 0, 1, 9, 9);
        c.take(4, 0);
        trims(c, 0, 0, 15);
        c.take(4, 1);
        trims(c, 0, 1, 30);
        c = with(-40, -40, -40, -39, -39, -40);
        trims(c, 0, 0, 7);
        // All ten, down to four, each time by the round of those that are left.
        c = with(TEN_ANYWHERE);
        trims(c, 0, 6, 108);
        due("worst(1) of the four that are left", c.worst(1), 9);
        due("count(0)", c.count(0), 10);
        int[] sizes = {846, 803, 618, 560, 216, 92};
        int[] leftOut = {9, 4, 7, 8, 1, 0};
        c = with(TEN_ANYWHERE);
        int taken = 1023;
        for (int i = 0; i < 6; i++) {
            due("worst(0)", c.worst(0), leftOut[i]);
            due("worst(1)", c.worst(1), sizes[i]);
            trims(c, sizes[i] + 1, 0, taken);
            taken &= ~(1 << leftOut[i]);
            trims(c, sizes[i], 1, taken);
        }
        trims(c, 0, 0, 108);
    }

    private static void trimByTheLimit() {
        sentence = "TRIM: the greatest size is above LIMIT";
        // Just 40; 98 and 1/113883; 139 less 4/144367.
        CompassBias c = with(0, 0, 5, 5, -5, 5, -5, -5, 5, -5);
        trims(c, 41, 0, 31);
        trims(c, 40, 0, 31);
        trims(c, 39, 1, 30);
        c = with(0, 8, 3, 9, -17, -7, -11, -9, 10, -11, 18, -8);
        trims(c, 99, 0, 63);
        trims(c, 98, 1, 31);
        c = with(-12, 0, 13, 20, -11, 9, 9, 7, 2, -3, 19, 16);
        trims(c, 139, 0, 63);
        trims(c, 138, 1, 55);
        sentence = "TRIM: they are not FLAT";
        c = with(0, 0, 0, 1, 0, 3, 0, 5, 0, 6, 0, 9, 1, 1);
        due("trim(0) of a line and one beside it", c.trim(0), 3);
        due("of(6, 2): the one beside it stays", c.of(6, 2), 1);
        due("count(4)", c.count(4), 0);
        c.take(6, 0);
        due("trim(0) of three on a line", c.trim(0), NO);
    }

    private static void trimOfAlikeSizes() {
        sentence = "TRIM: of such the one with the least number";
        // Three have the size 36/7, one of them with the other sign: whichever stands first among them goes.
        trims(with(2, 4, -2, 4, 0, -4, 3, 0, -3, 0), 5, 1, 31 - 4);
        trims(with(2, 4, -2, 4, 3, 0, 0, -4, -3, 0), 5, 1, 31 - 4);
        trims(with(-3, 0, 2, 4, -2, 4, 0, -4, 3, 0), 5, 1, 31 - 1);
        trims(with(0, -4, 3, 0, -3, 0, 2, 4, -2, 4), 5, 1, 31 - 1);
        // One that is left out is none of them, though it is alike.
        CompassBias c = with(3, 0, 2, 4, -2, 4, 0, -4, 3, 0, -3, 0);
        c.take(0, 0);
        trims(c, 5, 1, 63 - 1 - 8);
    }

    private static void fewestIs(CompassBias c, int limit, int set) {
        due("fewest(" + limit + ", 0)", c.fewest(limit, 0), set == NONE ? NONE : Integer.bitCount(set));
        due("fewest(" + limit + ", 1)", c.fewest(limit, 1), set);
    }

    private static void fewestOfAsFew() {
        sentence = "FEWEST: of as few the set that is the least number";
        // One of four, each of which would do.
        fewestIs(with(2, 2, -2, 2, -2, -2, 0, 1), 0, 1);
        // 14 of 14, 38, 42 and more, 81 among them, which holds the first sample.
        fewestIs(with(-2, 0, -4, 3, -4, -3, 1, 1, -2, 0, 1, -1, 0, 5), 0, 14);
        // 40 of 40 and 68; 11, of three, is a lesser number but not as few.
        fewestIs(with(4, 3, 4, 3, -3, -4, -4, 1, 0, -5, -4, 0, -4, -3), 1, 40);
        // 8 alone of one, though 3, of two, would do.
        fewestIs(with(4, 3, 5, 0, 3, 4, 2, -3, 3, -4), 0, 8);
        // The tenth alone: the greatest set of one.
        fewestIs(with(5, 0, 4, 3, 3, 4, 0, 5, -3, 4, -4, 3, -5, 0, -4, -3, -3, -4, 0, 0), 0, 512);
        // Seven of ten, for no four lie on one round.
        fewestIs(with(TEN_ANYWHERE), 0, 127);
        // Two are enough, where trim leaves out three.
        CompassBias c = with(5, 0, -3, -4, 2, -2, 1, -2, -1, -1, 1, -2, -1, 1);
        fewestIs(c, 1, 3);
        due("trim(1)", c.trim(1), 3);
    }

    private static void fewestWithinTheLimit() {
        sentence = "FEWEST: none of them has a size above LIMIT";
        CompassBias c = with(0, 0, 5, 5, -5, 5, -5, -5, 5, -5);
        fewestIs(c, 40, 0);
        fewestIs(c, 0, 1);
        due("fewest(39, 0)", c.fewest(39, 0), 1);
        c = with(0, 8, 3, 9, -17, -7, -11, -9, 10, -11, 18, -8);
        due("fewest(98, 0), 98 and 1/113883", c.fewest(98, 0), 1);
        due("fewest(99, 0)", c.fewest(99, 0), 0);
        c = with(-12, 0, 13, 20, -11, 9, 9, 7, 2, -3, 19, 16);
        due("fewest(138, 0), 139 less 4/144367", c.fewest(138, 0), 1);
        due("fewest(139, 0)", c.fewest(139, 0), 0);
    }

    private static void fewestNotFlat() {
        sentence = "FEWEST: the others are not FLAT";
        // All but the last lie on a line, so it can't go, and of the line only two can stay.
        fewestIs(with(0, 0, 0, 1, 0, 3, 0, 6, 1, 1), 0, 3);
        // Two alike and one more are on a line.
        fewestIs(with(0, 0, 0, 0, 0, 0, 4, 4), 9999, NONE);
        fewestIs(with(0, 0, 4, 4), 9999, NONE);
        fewestIs(new CompassBias(), 9999, NONE);
        fewestIs(with(0, 0, 4, 4, 1, 2), 0, 0);
        sentence = "FEWEST: of those that are TAKEN";
        CompassBias c = with(0, 0, 2, 2, -2, 2, -2, -2, 2, -2, 1, 0);
        c.take(0, 0);
        fewestIs(c, 0, 32);
        c.take(5, 0);
        fewestIs(c, 0, 0);
        c.take(1, 0);
        c.take(2, 0);
        fewestIs(c, 9999, NONE);
    }

    public static void main(String[] args) {
        theFirstRefusalThatFits();
        belowAndTheRefusal();
        asThingsAre();
        fractionsInLowestTerms();
        greatestNumbers();
        flat();
        eighthsOfAllPlaces();
        eighthsJustBesideAnEdge();
        needAndPoor();
        trimLeavesFour();
        trimByTheLimit();
        trimOfAlikeSizes();
        fewestOfAsFew();
        fewestWithinTheLimit();
        fewestNotFlat();
        System.out.println("terms: " + checks + " answers, " + wrong + " of them wrong");
        if (wrong != 0) {
            System.exit(1);
        }
    }
}
