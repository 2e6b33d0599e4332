/** Each promise of the document by hand: ordinary inputs, the edges that it names, and wrong inputs. */
public final class PromisesTest {
    private static final int UNKNOWN = -1, OUTSIDE = -2, STATE = -3, FULL = -4, NO = -5, NONE = -6;
    private static final long BELOW = -1000000000000000000L;
    private static final int[] WILD = {Integer.MIN_VALUE, -1000, 1000, Integer.MAX_VALUE};

    private static int checks = 0;
    private static int wrong = 0;

    private static void due(String call, long got, long want) {
        checks++;
        if (got != want) {
            wrong++;
            System.out.println(call + " answered " + got + ", due is " + want);
        }
    }

    private static CompassBias with(int... places) {
        CompassBias c = new CompassBias();
        for (int i = 0; i + 1 < places.length; i += 2) {
            due("add of sample " + i / 2, c.add(places[i], places[i + 1]), i / 2);
        }
        return c;
    }

    /** Four samples around (3, 5), 10 away from it. */
    private static CompassBias cross() {
        return with(13, 5, 3, 15, -7, 5, 3, -5);
    }

    private static CompassBias flat() {
        return with(0, 0, 1, 2, 3, 6, -2, -4);
    }

    private static void fraction(String call, long upper, long lower, long wantUpper, long wantLower) {
        due(call + " upper", upper, wantUpper);
        due(call + " lower", lower, wantLower);
    }

    private static void offIs(CompassBias c, int sample, long upper, long lower) {
        fraction("off(" + sample + ")", c.off(sample, 0), c.off(sample, 1), upper, lower);
    }

    private static void roundIs(CompassBias c, int what, long upper, long lower) {
        fraction("round(" + what + ")", c.round(what, 0), c.round(what, 1), upper, lower);
    }

    private static void middleIs(CompassBias c, int what, long upper, long lower) {
        fraction("middle(" + what + ")", c.middle(what, 0), c.middle(what, 1), upper, lower);
    }

    private static void countsAre(CompassBias c, int many, int takenSet, int need, int isFlat, int images) {
        due("count(0)", c.count(0), many);
        due("count(1)", c.count(1), Integer.bitCount(takenSet));
        due("count(2)", c.count(2), takenSet);
        due("count(3)", c.count(3), need);
        due("count(4)", c.count(4), isFlat);
        due("count(5)", c.count(5), images);
    }

    private static void constants() {
        due("UNKNOWN", CompassBias.UNKNOWN, UNKNOWN);
        due("OUTSIDE", CompassBias.OUTSIDE, OUTSIDE);
        due("STATE", CompassBias.STATE, STATE);
        due("FULL", CompassBias.FULL, FULL);
        due("NO", CompassBias.NO, NO);
        due("NONE", CompassBias.NONE, NONE);
        due("BELOW", CompassBias.BELOW, BELOW);
    }

    private static void promise1New() {
        CompassBias c = new CompassBias();
        countsAre(c, 0, 0, 5, 1, 0);
        due("restore(0) of a new one", c.restore(0), STATE);
        due("restore(1) of a new one", c.restore(1), STATE);
        CompassBias other = cross();
        countsAre(c, 0, 0, 5, 1, 0);
        countsAre(other, 4, 15, 5, 0, 0);
    }

    private static void promise2Add() {
        CompassBias c = new CompassBias();
        int[][] refused = {{41, 0}, {-41, 0}, {0, 41}, {0, -41}, {41, 41}};
        for (int[] place : refused) {
            due("add outside", c.add(place[0], place[1]), OUTSIDE);
        }
        for (int w : WILD) {
            due("add(" + w + ", 0)", c.add(w, 0), OUTSIDE);
            due("add(0, " + w + ")", c.add(0, w), OUTSIDE);
        }
        countsAre(c, 0, 0, 5, 1, 0);
        due("add(40, -40)", c.add(40, -40), 0);
        due("add(-40, 40)", c.add(-40, 40), 1);
        due("an alike one", c.add(40, -40), 2);
        for (int i = 3; i < 10; i++) {
            due("add", c.add(i, i * i / 3 - 20), i);
        }
        due("an eleventh", c.add(0, 0), FULL);
        due("an eleventh outside", c.add(41, 0), OUTSIDE);
        countsAre(c, 10, 1023, 5, 0, 0);
        due("take(4, 0)", c.take(4, 0), 9);
        due("an eleventh, one left out", c.add(0, 0), FULL);
    }

    private static void promise3Clear() {
        CompassBias c = cross();
        c.need(3);
        c.image(1);
        c.take(2, 0);
        due("clear()", c.clear(), 4);
        countsAre(c, 0, 0, 3, 1, 2);
        due("of(0, 0) after clear", c.of(0, 0), UNKNOWN);
        due("clear() again", c.clear(), 0);
        due("add after clear", c.add(1, 2), 0);
        countsAre(c, 1, 1, 3, 1, 2);
        due("restore(1)", c.restore(1), 1);
        countsAre(c, 4, 15, 3, 0, 2);
    }

    private static void promise4Take() {
        CompassBias c = cross();
        due("take(1, 0)", c.take(1, 0), 3);
        due("take(1, 0) again", c.take(1, 0), 3);
        due("take(3, 0)", c.take(3, 0), 2);
        countsAre(c, 4, 5, 5, 1, 0);
        due("take(3, 1)", c.take(3, 1), 3);
        due("take(3, 1) again", c.take(3, 1), 3);
        due("take(4, 1)", c.take(4, 1), UNKNOWN);
        due("take(-1, 1)", c.take(-1, 1), UNKNOWN);
        due("take(4, 2)", c.take(4, 2), UNKNOWN);
        due("take(0, 2)", c.take(0, 2), OUTSIDE);
        due("take(0, -1)", c.take(0, -1), OUTSIDE);
        for (int w : WILD) {
            due("take(" + w + ", 0)", c.take(w, 0), UNKNOWN);
            due("take(0, " + w + ")", c.take(0, w), OUTSIDE);
        }
        countsAre(c, 4, 13, 5, 0, 0);
    }

    private static void promise5Of() {
        CompassBias c = with(-40, 40, 3, -7);
        c.take(1, 0);
        int[][] want = {{60, 140, 1, 3200}, {103, 93, 0, 58}};
        for (int sample = 0; sample < 2; sample++) {
            for (int what = 0; what < 4; what++) {
                due("of(" + sample + ", " + what + ")", c.of(sample, what), want[sample][what]);
            }
            due("of what 4", c.of(sample, 4), OUTSIDE);
            due("of what -1", c.of(sample, -1), OUTSIDE);
        }
        due("of(2, 0)", c.of(2, 0), UNKNOWN);
        due("of(2, 4)", c.of(2, 4), UNKNOWN);
        due("of(-1, 0)", c.of(-1, 0), UNKNOWN);
        for (int w : WILD) {
            due("of(" + w + ", 0)", c.of(w, 0), UNKNOWN);
            due("of(0, " + w + ")", c.of(0, w), OUTSIDE);
        }
    }

    private static void promise6Round() {
        CompassBias c = cross();
        roundIs(c, 0, 6, 1);
        roundIs(c, 1, 10, 1);
        roundIs(c, 2, 66, 1);
        // A square beside the origin and one sample in it: A and B are those of the square, C is the mean of the rest.
        c = with(2, 2, -2, 2, -2, -2, 2, -2, 0, 0);
        roundIs(c, 0, 0, 1);
        roundIs(c, 1, 0, 1);
        roundIs(c, 2, 32, 5);
        c = with(0, 0, 1, 1, 2, 2, 5, 2);
        roundIs(c, 0, 65, 9);
        roundIs(c, 1, -29, 9);
        roundIs(c, 2, -2, 3);
        due("round(3, 0)", c.round(3, 0), BELOW + OUTSIDE);
        due("round(-1, 0)", c.round(-1, 0), BELOW + OUTSIDE);
        due("round(0, 2)", c.round(0, 2), BELOW + OUTSIDE);
        due("round(0, -1)", c.round(0, -1), BELOW + OUTSIDE);
        c = flat();
        due("round(2, 1), flat", c.round(2, 1), BELOW + NO);
        due("round(3, 0), flat", c.round(3, 0), BELOW + OUTSIDE);
        due("round(0, 2), flat", c.round(0, 2), BELOW + OUTSIDE);
    }

    private static void promise7Middle() {
        CompassBias c = cross();
        middleIs(c, 0, 3, 1);
        middleIs(c, 1, 5, 1);
        c = with(-40, -40, -40, -39, -39, -40);
        middleIs(c, 0, -79, 2);
        middleIs(c, 1, -79, 2);
        c = with(2, 0, -2, 0, 0, 2, 0, -2);
        middleIs(c, 0, 0, 1);
        middleIs(c, 1, 0, 1);
        due("middle(2, 0)", c.middle(2, 0), BELOW + OUTSIDE);
        due("middle(-1, 0)", c.middle(-1, 0), BELOW + OUTSIDE);
        due("middle(0, 2)", c.middle(0, 2), BELOW + OUTSIDE);
        due("middle(0, -1)", c.middle(0, -1), BELOW + OUTSIDE);
        c = flat();
        due("middle(1, 0), flat", c.middle(1, 0), BELOW + NO);
        due("middle(2, 0), flat", c.middle(2, 0), BELOW + OUTSIDE);
    }

    private static void promise8Off() {
        CompassBias c = with(2, 2, -2, 2, -2, -2, 2, -2, 0, 0);
        offIs(c, 0, 8, 5);
        offIs(c, 4, -32, 5);
        c.take(4, 0);
        offIs(c, 0, 0, 1);
        offIs(c, 4, -8, 1);
        due("off(5, 0)", c.off(5, 0), BELOW + UNKNOWN);
        due("off(-1, 2)", c.off(-1, 2), BELOW + UNKNOWN);
        due("off(0, 2)", c.off(0, 2), BELOW + OUTSIDE);
        due("off(0, -1)", c.off(0, -1), BELOW + OUTSIDE);
        c = flat();
        due("off(0, 0), flat", c.off(0, 0), BELOW + NO);
        due("off(0, 2), flat", c.off(0, 2), BELOW + OUTSIDE);
        due("off(4, 2), flat", c.off(4, 2), BELOW + UNKNOWN);
        // Samples close to one line and one far off: the greatest numbers stay exact.
        c = with(-40, -40, -40, -39, -39, -39, 40, 40);
        c.take(3, 0);
        offIs(c, 3, 80 * 80 + 80 * 80 - 80 - 80, 1);
    }

    private static void promise9Worst() {
        CompassBias c = with(2, 2, -2, 2, -2, -2, 2, -2, 0, 0);
        due("worst(0)", c.worst(0), 4);
        due("worst(1)", c.worst(1), 6);
        c.take(4, 0);
        due("worst(0) of alike ones", c.worst(0), 0);
        due("worst(1) of alike ones", c.worst(1), 0);
        c.take(0, 0);
        due("worst(0), 0 left out", c.worst(0), 1);
        due("worst(2)", c.worst(2), OUTSIDE);
        due("worst(-1)", c.worst(-1), OUTSIDE);
        c = flat();
        due("worst(0), flat", c.worst(0), NO);
        due("worst(2), flat", c.worst(2), OUTSIDE);
    }

    private static void promise10Need() {
        CompassBias c = new CompassBias();
        due("need(0)", c.need(0), OUTSIDE);
        due("need(9)", c.need(9), OUTSIDE);
        for (int w : WILD) {
            due("need(" + w + ")", c.need(w), OUTSIDE);
        }
        due("need(1)", c.need(1), 5);
        due("need(8)", c.need(8), 1);
        due("need(8) again", c.need(8), 8);
        due("count(3)", c.count(3), 8);
    }

    private static void promise11Cover() {
        CompassBias c = cross();
        due("cover()", c.cover(), 85);
        c.take(3, 0);
        due("cover(), 3 left out", c.cover(), 21);
        c = with(2, 2, -2, 2, -2, -2, 2, -2, 0, 0);
        due("cover(), one on the middle", c.cover(), 170);
        due("cover(), flat", flat().cover(), NO);
        due("cover(), no samples", new CompassBias().cover(), NO);
    }

    private static void promise12Poor() {
        CompassBias c = cross();
        due("poor(), need 5", c.poor(), 1);
        c.need(4);
        due("poor(), need 4", c.poor(), 0);
        c = flat();
        c.need(1);
        due("poor(), flat", c.poor(), 1);
        due("poor(), no samples", new CompassBias().poor(), 1);
    }

    private static void promise13Eighth() {
        // The four corners make the round; what is left out lies all about the middle, (0, 0).
        int[][] about = {{3, 0, 0}, {3, 2, 0}, {3, 3, 1}, {2, 3, 1}, {0, 3, 2}, {-2, 3, 2}, {-3, 3, 3}, {-3, 2, 3},
            {-3, 0, 4}, {-3, -2, 4}, {-3, -3, 5}, {-2, -3, 5}, {0, -3, 6}, {2, -3, 6}, {3, -3, 7}, {3, -2, 7}, {0, 0, NONE}};
        for (int[] a : about) {
            CompassBias c = with(2, 2, -2, 2, -2, -2, 2, -2, a[0], a[1]);
            c.take(4, 0);
            due("eighth at " + a[0] + ", " + a[1], c.eighth(4), a[2]);
            c.need(4);
            due("points(" + a[0] + ", " + a[1] + ")", c.points(a[0], a[1]), a[2]);
            due("eighth(5)", c.eighth(5), UNKNOWN);
        }
        CompassBias c = flat();
        due("eighth(0), flat", c.eighth(0), NO);
        due("eighth(4), flat", c.eighth(4), UNKNOWN);
        due("eighth(-1), flat", c.eighth(-1), UNKNOWN);
    }

    private static void promise14Points() {
        CompassBias c = cross();
        due("points(4, 5), poor", c.points(4, 5), NO);
        due("points(41, 5), poor", c.points(41, 5), OUTSIDE);
        c.need(4);
        due("points(4, 5)", c.points(4, 5), 0);
        due("points(3, 5)", c.points(3, 5), NONE);
        due("points(40, 40)", c.points(40, 40), 0);
        due("points(-40, -40)", c.points(-40, -40), 5);
        int[][] refused = {{41, 0}, {-41, 0}, {0, 41}, {0, -41}};
        for (int[] place : refused) {
            due("points outside", c.points(place[0], place[1]), OUTSIDE);
        }
        c = flat();
        c.need(1);
        due("points(0, 0), flat", c.points(0, 0), NO);
    }

    private static void promise15Helps() {
        CompassBias c = cross();
        due("helps(), need 5", c.helps(), 255);
        c.need(6);
        due("helps(), need 6", c.helps(), 0);
        c.need(4);
        due("helps(), need 4", c.helps(), 255);
        c = with(0, 0, 1, 1);
        c.need(3);
        due("helps() beside two", c.helps() == 0 ? 0 : 1, 1);
        c = with(-40, -40, -40, -39, -39, -40, -40, -40, -40, -40);
        c.need(2);
        due("helps() in the corner", c.helps(), 175);
        c = with(20, 0, 0, 20, -20, 0, 0, -20, 12, 16, -16, 12, 16, -12, -12, -16, 0, 0);
        due("helps() with 9", c.helps(), 255);
        c.take(8, 0);
        due("add the tenth", c.add(1, 1), 9);
        due("helps() with 10, one left out", c.helps(), 0);
        c = new CompassBias();
        c.need(1);
        due("helps(), no samples", c.helps(), 0);
        c.add(4, 4);
        due("helps(), one sample", c.helps(), 0);
    }

    private static void promise16Trim() {
        int[] places = {20, 0, 0, 20, -20, 0, 0, -20, 12, 16, -16, 12, 30, 30, -5, 5};
        CompassBias c = with(places);
        due("trim(-1)", c.trim(-1), OUTSIDE);
        due("trim(10000)", c.trim(10000), OUTSIDE);
        due("trim(9999)", c.trim(9999), 0);
        due("trim(561)", c.trim(561), 1);
        due("count(2)", c.count(2), 191);
        due("trim(200)", c.trim(200), 1);
        due("count(2)", c.count(2), 63);
        due("trim(0)", c.trim(0), 0);
        c = flat();
        due("trim(0), flat", c.trim(0), NO);
        due("trim(-1), flat", c.trim(-1), OUTSIDE);
        // Four are never trimmed, however far off they are.
        c = with(2, 2, -2, 2, -2, -2, 0, 1);
        due("trim(0) of four", c.trim(0), 0);
        due("count(2)", c.count(2), 15);
        // The greatest size is 32/5: it is above 6, though it is 6 when cut down.
        c = with(2, 2, -2, 2, -2, -2, 2, -2, 0, 0);
        due("trim(7)", c.trim(7), 0);
        due("trim(6)", c.trim(6), 1);
        due("count(2)", c.count(2), 15);
        // The greatest size is just 40: what is the limit itself stays.
        c = with(0, 0, 5, 5, -5, 5, -5, -5, 5, -5);
        due("trim(40)", c.trim(40), 0);
        due("trim(39)", c.trim(39), 1);
        due("count(2)", c.count(2), 30);
        // Samples 2, 3 and 4 all have 36/7, the first of them with the other sign: the least number goes.
        c = with(2, 4, -2, 4, 0, -4, 3, 0, -3, 0);
        offIs(c, 2, 36, 7);
        offIs(c, 3, -36, 7);
        offIs(c, 4, -36, 7);
        due("worst(0) of three alike", c.worst(0), 2);
        due("worst(1) of three alike", c.worst(1), 5);
        due("trim(6) of three alike", c.trim(6), 0);
        due("trim(5) of three alike", c.trim(5), 1);
        due("count(2)", c.count(2), 27);
        // The one sample beside the line lies on the round, so trim leaves it and never ends with a flat set.
        c = with(0, 0, 0, 1, 0, 3, 0, 5, 0, 6, 1, 1);
        offIs(c, 5, 0, 1);
        due("trim(0) of a line and one beside it", c.trim(0), 2);
        due("count(4)", c.count(4), 0);
        due("of(5, 2)", c.of(5, 2), 1);
    }

    private static void promise17Fewest() {
        CompassBias c = with(20, 0, 0, 20, -20, 0, 0, -20, 12, 16, -16, 12, 30, 30, -5, 5);
        due("fewest(0, 0)", c.fewest(0, 0), 2);
        due("fewest(0, 1)", c.fewest(0, 1), 192);
        due("fewest(9999, 0)", c.fewest(9999, 0), 0);
        due("fewest(9999, 1)", c.fewest(9999, 1), 0);
        c.take(6, 0);
        due("fewest(0, 0), 6 left out", c.fewest(0, 0), 1);
        due("fewest(0, 1), 6 left out", c.fewest(0, 1), 128);
        countsAre(c, 8, 191, 5, 0, 0);
        // Any three of these make a round of their own: the least set is left out.
        c = with(2, 2, -2, 2, -2, -2, 0, 1);
        due("fewest(0, 1) of four", c.fewest(0, 1), 1);
        due("fewest(-1, 0)", c.fewest(-1, 0), OUTSIDE);
        due("fewest(10000, 0)", c.fewest(10000, 0), OUTSIDE);
        due("fewest(0, 2)", c.fewest(0, 2), OUTSIDE);
        due("fewest(0, -1)", c.fewest(0, -1), OUTSIDE);
        c = flat();
        due("fewest(9999, 0), flat", c.fewest(9999, 0), NONE);
        due("fewest(9999, 1), flat", c.fewest(9999, 1), NONE);
        due("fewest(10000, 1), flat", c.fewest(10000, 1), OUTSIDE);
        // 32/5 is the greatest size: 6 is too little for it, 7 is enough.
        c = with(2, 2, -2, 2, -2, -2, 2, -2, 0, 0);
        due("fewest(6, 1)", c.fewest(6, 1), 1);
        due("fewest(7, 1)", c.fewest(7, 1), 0);
        due("fewest(0, 1)", c.fewest(0, 1), 16);
    }

    private static void promises18And19Images() {
        CompassBias c = cross();
        due("image(2)", c.image(2), OUTSIDE);
        due("image(-1)", c.image(-1), OUTSIDE);
        due("restore(2)", c.restore(2), OUTSIDE);
        due("restore(-1)", c.restore(-1), OUTSIDE);
        due("restore(0)", c.restore(0), STATE);
        countsAre(c, 4, 15, 5, 0, 0);
        c.take(1, 0);
        c.need(2);
        due("image(1)", c.image(1), 1);
        due("restore(0), only 1 is kept", c.restore(0), STATE);
        countsAre(c, 4, 13, 2, 0, 2);
        c.clear();
        c.add(-1, -2);
        c.need(7);
        due("image(0)", c.image(0), 1);
        due("restore(1)", c.restore(1), 1);
        countsAre(c, 4, 13, 2, 0, 3);
        due("of(0, 0) restored", c.of(0, 0), 113);
        due("of(1, 1) restored", c.of(1, 1), 115);
        c.take(0, 0);
        c.add(7, 7);
        due("restore(1), the image stays", c.restore(1), 1);
        countsAre(c, 4, 13, 2, 0, 3);
        due("restore(0)", c.restore(0), 1);
        countsAre(c, 1, 1, 7, 1, 3);
        due("of(0, 0)", c.of(0, 0), 99);
        due("image(1) in place of what was kept", c.image(1), 1);
        c.clear();
        due("restore(1)", c.restore(1), 1);
        countsAre(c, 1, 1, 7, 1, 3);
    }

    private static void promise20Count() {
        CompassBias c = cross();
        c.take(2, 0);
        c.need(6);
        c.image(1);
        countsAre(c, 4, 11, 6, 0, 2);
        due("count(6)", c.count(6), OUTSIDE);
        due("count(-1)", c.count(-1), OUTSIDE);
        for (int w : WILD) {
            due("count(" + w + ")", c.count(w), OUTSIDE);
        }
        countsAre(flat(), 4, 15, 5, 1, 0);
        countsAre(with(5, 5, 5, 5, 5, 5), 3, 7, 5, 1, 0);
        countsAre(with(5, 5, 5, 5, 5, 6, 4, 5), 4, 15, 5, 0, 0);
    }

    public static void main(String[] args) {
        constants();
        promise1New();
        promise2Add();
        promise3Clear();
        promise4Take();
        promise5Of();
        promise6Round();
        promise7Middle();
        promise8Off();
        promise9Worst();
        promise10Need();
        promise11Cover();
        promise12Poor();
        promise13Eighth();
        promise14Points();
        promise15Helps();
        promise16Trim();
        promise17Fewest();
        promises18And19Images();
        promise20Count();
        System.out.println("promises by hand: " + checks + " answers, " + wrong + " of them wrong");
        if (wrong != 0) {
            System.exit(1);
        }
    }
}
