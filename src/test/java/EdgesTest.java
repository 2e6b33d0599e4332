/** Promises 1 to 20 at their boundaries: the last number within, the first outside, the ends of an int, empty, full. */
public final class EdgesTest {
    private static final int UNKNOWN = -1, OUTSIDE = -2, STATE = -3, FULL = -4, NO = -5, NONE = -6;
    private static final long BELOW = -1000000000000000000L;
    private static final int LEAST = Integer.MIN_VALUE, GREATEST = Integer.MAX_VALUE;
    /** One in each eighth about (0, 0), in their order, 5 away. */
    private static final int[] EIGHT = {5, 0, 3, 4, 0, 5, -4, 3, -5, 0, -3, -4, 0, -5, 4, -3};

    private static int checks = 0;
    private static int wrong = 0;
    private static String promise = "";

    private static void due(String call, long got, long want) {
        checks++;
        if (got != want) {
            wrong++;
            System.out.println(promise + ": " + call + " answered " + got + ", due is " + want);
        }
    }

    private static void addAll(CompassBias c, int... places) {
        for (int i = 0; i + 1 < places.length; i += 2) {
            int sample = c.count(0);
            due("add of sample " + sample, c.add(places[i], places[i + 1]), sample);
        }
    }

    private static CompassBias with(int... places) {
        CompassBias c = new CompassBias();
        addAll(c, places);
        return c;
    }

    private static CompassBias ten() {
        CompassBias c = with(EIGHT);
        addAll(c, 6, 1, -7, 2);
        return c;
    }

    /** Four about (3, 5), 10 away. */
    private static CompassBias cross() {
        return with(13, 5, 3, 15, -7, 5, 3, -5);
    }

    private static void countsAre(CompassBias c, int many, int takenSet, int need, int isFlat, int images) {
        due("count(0)", c.count(0), many);
        due("count(1)", c.count(1), Integer.bitCount(takenSet));
        due("count(2)", c.count(2), takenSet);
        due("count(3)", c.count(3), need);
        due("count(4)", c.count(4), isFlat);
        due("count(5)", c.count(5), images);
    }

    private static void placesAre(CompassBias c, int... places) {
        due("count(0)", c.count(0), places.length / 2);
        for (int i = 0; i + 1 < places.length; i += 2) {
            due("of(" + i / 2 + ", 0)", c.of(i / 2, 0), places[i] + 100);
            due("of(" + i / 2 + ", 1)", c.of(i / 2, 1), places[i + 1] + 100);
        }
    }

    private static void promise1New() {
        promise = "1 a new object";
        CompassBias c = new CompassBias();
        countsAre(c, 0, 0, 5, 1, 0);
        due("take(0, 1)", c.take(0, 1), UNKNOWN);
        due("of(0, 0)", c.of(0, 0), UNKNOWN);
        due("round(2, 1)", c.round(2, 1), BELOW + NO);
        due("middle(1, 1)", c.middle(1, 1), BELOW + NO);
        due("off(0, 0)", c.off(0, 0), BELOW + UNKNOWN);
        due("worst(0)", c.worst(0), NO);
        due("cover()", c.cover(), NO);
        due("poor()", c.poor(), 1);
        due("eighth(0)", c.eighth(0), UNKNOWN);
        due("points(0, 0)", c.points(0, 0), NO);
        due("helps()", c.helps(), 0);
        due("trim(0)", c.trim(0), NO);
        due("fewest(0, 0)", c.fewest(0, 0), NONE);
        due("restore(0)", c.restore(0), STATE);
        due("restore(1)", c.restore(1), STATE);
        due("clear()", c.clear(), 0);
        countsAre(c, 0, 0, 5, 1, 0);
        CompassBias other = ten();
        other.need(2);
        other.image(0);
        due("restore(0), another object has kept one", c.restore(0), STATE);
        countsAre(c, 0, 0, 5, 1, 0);
    }

    private static void promise2Add() {
        promise = "2 add";
        CompassBias c = new CompassBias();
        int[] outside = {-41, 41, LEAST, LEAST + 1, GREATEST, GREATEST - 1, 216, -216};
        for (int v : outside) {
            due("add(" + v + ", 40)", c.add(v, 40), OUTSIDE);
            due("add(-40, " + v + ")", c.add(-40, v), OUTSIDE);
            due("add(" + v + ", " + v + ")", c.add(v, v), OUTSIDE);
        }
        countsAre(c, 0, 0, 5, 1, 0);
        addAll(c, 40, 40, -40, 40, -40, -40, 40, -40, 40, 40, 0, 0, 39, -39, 0, 40, -40, 0);
        due("the tenth", c.add(1, -1), 9);
        due("the eleventh", c.add(2, 2), FULL);
        due("the eleventh, alike", c.add(1, -1), FULL);
        due("the eleventh, outside", c.add(41, 0), OUTSIDE);
        countsAre(c, 10, 1023, 5, 0, 0);
        placesAre(c, 40, 40, -40, 40, -40, -40, 40, -40, 40, 40, 0, 0, 39, -39, 0, 40, -40, 0, 1, -1);
        for (int i = 0; i < 10; i++) {
            c.take(i, 0);
        }
        due("the eleventh, all are left out", c.add(2, 2), FULL);
        countsAre(c, 10, 0, 5, 1, 0);
    }

    private static void promise3Clear() {
        promise = "3 clear";
        CompassBias c = ten();
        c.image(0);
        c.need(8);
        c.take(0, 0);
        c.take(9, 0);
        due("clear() of ten, two left out", c.clear(), 10);
        countsAre(c, 0, 0, 8, 1, 1);
        due("of(0, 2)", c.of(0, 2), UNKNOWN);
        due("off(9, 0)", c.off(9, 0), BELOW + UNKNOWN);
        due("clear() of none", c.clear(), 0);
        addAll(c, -1, -2);
        due("of(0, 2): taken, though the former 0 was left out", c.of(0, 2), 1);
        due("of(1, 2): there is no such one now", c.of(1, 2), UNKNOWN);
        countsAre(c, 1, 1, 8, 1, 1);
        addAll(c, 3, 4, 5, -6, 7, 8, 9, 9, -9, 9, 0, 0, 1, 1, 2, 2, 3, 3);
        due("the eleventh after a clear", c.add(0, 0), FULL);
        due("restore(0): the image stays", c.restore(0), 1);
        countsAre(c, 10, 1023, 5, 0, 1);
    }

    private static void promise4Take() {
        promise = "4 take";
        CompassBias c = ten();
        for (int i = 0; i < 10; i++) {
            due("take(" + i + ", 1), it is", c.take(i, 1), 10);
        }
        for (int i = 0; i < 10; i++) {
            due("take(" + i + ", 0)", c.take(i, 0), 9 - i);
            due("take(" + i + ", 0) again", c.take(i, 0), 9 - i);
            due("of(" + i + ", 2)", c.of(i, 2), 0);
        }
        countsAre(c, 10, 0, 5, 1, 0);
        due("take(9, 1)", c.take(9, 1), 1);
        int[] unknown = {-1, 10, 11, 32, -32, LEAST, GREATEST};
        for (int v : unknown) {
            due("take(" + v + ", 1)", c.take(v, 1), UNKNOWN);
            due("take(" + v + ", 2)", c.take(v, 2), UNKNOWN);
        }
        int[] outside = {-1, 2, LEAST, GREATEST, 256, 257};
        for (int v : outside) {
            due("take(0, " + v + ")", c.take(0, v), OUTSIDE);
            due("take(9, " + v + ")", c.take(9, v), OUTSIDE);
        }
        countsAre(c, 10, 512, 5, 1, 0);
        c = cross();
        due("take(3, 0), the last", c.take(3, 0), 3);
        due("take(4, 0), none such yet", c.take(4, 0), UNKNOWN);
        addAll(c, 1, 1);
        due("count(2): the new one is taken, 3 is not", c.count(2), 23);
        due("take(4, 0)", c.take(4, 0), 3);
    }

    private static void promise5Of() {
        promise = "5 of";
        CompassBias c = with(-40, 40, 40, -40, 0, 0, -1, 0, 3, -7);
        c.take(2, 0);
        int[][] want = {{60, 140, 1, 3200}, {140, 60, 1, 3200}, {100, 100, 0, 0}, {99, 100, 1, 1}, {103, 93, 1, 58}};
        for (int sample = 0; sample < 5; sample++) {
            for (int what = 0; what < 4; what++) {
                due("of(" + sample + ", " + what + ")", c.of(sample, what), want[sample][what]);
            }
            int[] outside = {-1, 4, LEAST, GREATEST, 256};
            for (int v : outside) {
                due("of(" + sample + ", " + v + ")", c.of(sample, v), OUTSIDE);
            }
        }
        int[] unknown = {-1, 5, 9, 10, LEAST, GREATEST, 256};
        for (int v : unknown) {
            due("of(" + v + ", 0)", c.of(v, 0), UNKNOWN);
            due("of(" + v + ", 4)", c.of(v, 4), UNKNOWN);
        }
    }

    private static void promises6And7RoundAndMiddle() {
        promise = "6 round, 7 middle";
        CompassBias c = cross();
        int[] outside = {-1, 3, 4, LEAST, GREATEST, 256};
        for (int v : outside) {
            due("round(" + v + ", 0)", c.round(v, 0), BELOW + OUTSIDE);
            due("middle(" + v + ", 1)", c.middle(v, 1), BELOW + OUTSIDE);
            due("round(2, " + v + ")", c.round(2, v), BELOW + OUTSIDE);
            due("middle(1, " + v + ")", c.middle(1, v), BELOW + OUTSIDE);
        }
        due("round(2, 2)", c.round(2, 2), BELOW + OUTSIDE);
        due("middle(1, 2)", c.middle(1, 2), BELOW + OUTSIDE);
        due("middle(2, 0)", c.middle(2, 0), BELOW + OUTSIDE);
        due("round(2, 1)", c.round(2, 1), 1);
        due("middle(1, 1)", c.middle(1, 1), 1);
        addAll(c, 40, 40);
        c.take(4, 0);
        due("round(0, 0): what is left out does not count", c.round(0, 0), 6);
        due("middle(1, 0)", c.middle(1, 0), 5);
        c.take(1, 0);
        due("round(2, 0) by three", c.round(2, 0), 66);
        c.take(3, 0);
        due("round(2, 0) by two", c.round(2, 0), BELOW + NO);
        due("middle(0, 0) by two", c.middle(0, 0), BELOW + NO);
    }

    private static void promise8Off() {
        promise = "8 off";
        CompassBias c = cross();
        addAll(c, 3, 5, 40, 40);
        c.take(4, 0);
        c.take(5, 0);
        due("off(4, 0), left out and on the middle", c.off(4, 0), -100);
        due("off(5, 0), left out and far off", c.off(5, 0), 37 * 37 + 35 * 35 - 100);
        due("off(5, 1)", c.off(5, 1), 1);
        due("off(3, 0), taken", c.off(3, 0), 0);
        due("off(3, 1), 0 by 1", c.off(3, 1), 1);
        int[] unknown = {-1, 6, 9, 10, LEAST, GREATEST, 256};
        for (int v : unknown) {
            due("off(" + v + ", 0)", c.off(v, 0), BELOW + UNKNOWN);
            due("off(" + v + ", 2)", c.off(v, 2), BELOW + UNKNOWN);
        }
        int[] outside = {-1, 2, LEAST, GREATEST, 256};
        for (int v : outside) {
            due("off(5, " + v + ")", c.off(5, v), BELOW + OUTSIDE);
        }
        c.take(0, 0);
        c.take(1, 0);
        due("off(0, 1), two are taken", c.off(0, 1), BELOW + NO);
        due("off(5, 2), two are taken", c.off(5, 2), BELOW + OUTSIDE);
    }

    private static void worstIs(CompassBias c, int sample, int size) {
        due("worst(0)", c.worst(0), sample);
        due("worst(1)", c.worst(1), size);
    }

    private static void promise9Worst() {
        promise = "9 worst";
        int[] outside = {-1, 2, LEAST, GREATEST, 256};
        CompassBias c = cross();
        for (int v : outside) {
            due("worst(" + v + ")", c.worst(v), OUTSIDE);
        }
        worstIs(c, 0, 0);
        c.take(0, 0);
        worstIs(c, 1, 0);
        // 2/3 twice and 4/3, 40, 98 and 1/113883, 139 less 4/144367, 3239 and some.
        worstIs(with(0, 0, 1, 1, 2, 2, 5, 2), 1, 1);
        worstIs(with(0, 0, 5, 5, -5, 5, -5, -5, 5, -5), 0, 40);
        worstIs(with(0, 8, 3, 9, -17, -7, -11, -9, 10, -11, 18, -8), 5, 98);
        worstIs(with(-12, 0, 13, 20, -11, 9, 9, 7, 2, -3, 19, 16), 3, 138);
        worstIs(with(-40, 40, -40, 40, 2, -6, 8, -2, 5, -5, -40, 40, 4, -5, 3, -5, 40, -40, 4, -3), 8, 3239);
        // Alike sizes: all of four, 2 and -2 by turns, and the last three of five, the second with the other sign.
        worstIs(with(0, 0, 4, 0, 5, 3, 1, 3), 0, 2);
        worstIs(with(2, 4, -2, 4, 3, 0, 0, -4, -3, 0), 2, 5);
        c = with(9, 9, 2, 2, -2, 2, -2, -2, 2, -2);
        c.take(0, 0);
        worstIs(c, 1, 0);
        c = with(1, 1, 2, 2, 3, 3);
        due("worst(0), flat", c.worst(0), NO);
        due("worst(1), flat", c.worst(1), NO);
        due("worst(2), flat", c.worst(2), OUTSIDE);
    }

    private static void promise10Need() {
        promise = "10 need";
        CompassBias c = new CompassBias();
        int was = 5;
        for (int v = 1; v <= 8; v++) {
            due("need(" + v + ")", c.need(v), was);
            due("count(3)", c.count(3), v);
            was = v;
        }
        int[] outside = {0, 9, -1, -8, LEAST, GREATEST, 256 + 3};
        for (int v : outside) {
            due("need(" + v + ")", c.need(v), OUTSIDE);
            due("count(3) after a refused need", c.count(3), 8);
        }
        due("need(1)", c.need(1), 8);
        due("need(1) again", c.need(1), 1);
    }

    private static void promises11And12CoverAndPoor() {
        promise = "11 cover, 12 poor";
        CompassBias c = with(EIGHT);
        c.need(8);
        due("cover() of one in each", c.cover(), 255);
        due("poor()", c.poor(), 0);
        for (int i = 0; i < 8; i++) {
            c.take(i, 0);
            due("cover(), " + i + " left out", c.cover(), 255 - (1 << i));
            due("poor(), need 8", c.poor(), 1);
            c.need(7);
            due("poor(), need 7", c.poor(), 0);
            c.need(8);
            c.take(i, 1);
        }
        addAll(c, 0, 0);
        due("cover(), one more on the middle", c.cover(), 255);
        due("cover(), only one on the middle more than the four", with(2, 2, -2, 2, -2, -2, 2, -2, 0, 0).cover(), 170);
        c = with(0, 0, 4, 4, 9, 9);
        due("cover(), flat", c.cover(), NO);
        c.need(1);
        due("poor(), flat", c.poor(), 1);
        due("cover() of two", with(1, 2, 3, 4).cover(), NO);
    }

    private static void promise13Eighth() {
        promise = "13 eighth";
        CompassBias c = with(EIGHT);
        addAll(c, 0, 0, 1, 1);
        c.take(9, 0);
        for (int i = 0; i < 8; i++) {
            due("eighth(" + i + ")", c.eighth(i), i);
        }
        due("eighth(8), taken and on the middle", c.eighth(8), NONE);
        c.take(8, 0);
        due("eighth(8), left out and on the middle", c.eighth(8), NONE);
        due("eighth(9), left out", c.eighth(9), 1);
        int[] unknown = {-1, 10, LEAST, GREATEST, 256};
        for (int v : unknown) {
            due("eighth(" + v + ")", c.eighth(v), UNKNOWN);
        }
        // Poor is no refusal here.
        c.need(8);
        c.take(7, 0);
        due("eighth(7), poor", c.eighth(7), 7);
        c = with(1, 1, 2, 2, 3, 3);
        due("eighth(2), flat", c.eighth(2), NO);
        due("eighth(3), flat", c.eighth(3), UNKNOWN);
        due("eighth(-1), flat", c.eighth(-1), UNKNOWN);
    }

    private static void promise14Points() {
        promise = "14 points";
        CompassBias c = with(EIGHT);
        int[][] corners = {{40, 40, 1}, {-40, 40, 3}, {-40, -40, 5}, {40, -40, 7}, {40, 0, 0}, {0, 40, 2}, {-40, 0, 4},
            {0, -40, 6}, {40, 39, 0}, {-39, 40, 2}, {-40, -39, 4}, {39, -40, 6}, {0, 0, NONE}};
        for (int[] at : corners) {
            due("points(" + at[0] + ", " + at[1] + ")", c.points(at[0], at[1]), at[2]);
        }
        int[] outside = {-41, 41, LEAST, LEAST + 1, GREATEST, GREATEST - 1, 256};
        for (int v : outside) {
            due("points(" + v + ", 40)", c.points(v, 40), OUTSIDE);
            due("points(-40, " + v + ")", c.points(-40, v), OUTSIDE);
        }
        c.need(8);
        c.take(2, 0);
        due("points(0, 0), 7 eighths of 8", c.points(0, 0), NO);
        due("points(41, 0), 7 eighths of 8", c.points(41, 0), OUTSIDE);
        c.need(7);
        due("points(0, 40), 7 eighths of 7", c.points(0, 40), 2);
        due("points on no whole middle", threeOfThree().points(0, 0), 5);
    }

    /** Three, that are enough for it, about (1/2, 1/2). */
    private static CompassBias threeOfThree() {
        CompassBias c = with(0, 0, 1, 0, 0, 1);
        c.need(3);
        return c;
    }

    /** The same, turned by quarters about (0, 0): the set turns by two eighths each time. */
    private static void helpsIs(int need, int set, int... places) {
        int[] at = places.clone();
        int want = set;
        for (int turn = 0; turn < 4; turn++) {
            CompassBias c = with(at);
            c.need(need);
            due("helps() of " + at.length / 2 + ", need " + need + ", turned " + turn, c.helps(), want);
            countsAre(c, at.length / 2, (1 << at.length / 2) - 1, need, c.count(4), 0);
            for (int i = 0; i + 1 < at.length; i += 2) {
                int x = at[i];
                at[i] = -at[i + 1];
                at[i + 1] = x;
            }
            want = want << 2 & 255 | want >> 6;
        }
    }

    private static void promise15HelpsAtTheBorder() {
        promise = "15 helps, -40 to 40";
        // Eighth 3 by (-40, 39) alone; by (40, 40) alone 0; by (28, -40) alone 5.
        helpsIs(1, 251, -38, 40, -39, 40);
        helpsIs(5, 121, 2, 40, -28, 40, 24, 14, 31, 1);
        helpsIs(5, 58, 37, -40, 29, -34, 36, -37, 38, -29);
        // At (41, -27) there would be one more.
        helpsIs(3, 62, 40, -26, 40, -40, 40, -40, 40, -40);
        // (40, -22) would be the middle of a round that is not poor: it lies in no eighth.
        helpsIs(2, 127, 39, -23, 40, -24, 40, -21, 40, -23, 40, -20);
    }

    private static void promise15HelpsNone() {
        promise = "15 helps, 0";
        helpsIs(1, 0);
        helpsIs(1, 0, 4, 4);
        helpsIs(1, 0, 4, 4, 4, 4);
        helpsIs(4, 0, -38, 40, -39, 40);
        CompassBias c = cross();
        c.need(5);
        due("helps(), four and one for 5", c.helps(), 255);
        c.need(6);
        due("helps(), four and one for 6", c.helps(), 0);
        c = ten();
        due("helps() of ten", c.helps(), 0);
        c.need(1);
        due("helps() of ten, need 1", c.helps(), 0);
        c.take(3, 0);
        due("helps() of ten, one left out", c.helps(), 0);
        c = with(EIGHT);
        addAll(c, 6, 1);
        due("helps() of nine", c.helps(), 255);
        c.need(8);
        c.take(8, 0);
        due("helps() of nine, one left out", c.helps(), 255);
        c.clear();
        due("helps() of none", c.helps(), 0);
    }

    private static void promise15HelpsWhereOneIsMissing() {
        promise = "15 helps, one more for need 8";
        int[] want = {29, 50, 116, 200, 209, 35, 71, 140};
        CompassBias c = with(EIGHT);
        for (int missing = 0; missing < 8; missing++) {
            c.take(missing, 0);
            c.need(8);
            due("helps(), " + missing + " left out, need 8", c.helps(), want[missing]);
            c.need(7);
            due("helps(), " + missing + " left out, need 7", c.helps(), 255);
            c.take(missing, 1);
        }
        c.take(0, 0);
        c.take(4, 0);
        c.need(8);
        due("helps(), two left out, need 8", c.helps(), 0);
        countsAre(c, 8, 238, 8, 0, 0);
    }

    private static void promise16Trim() {
        promise = "16 trim";
        CompassBias c = ten();
        int[] outside = {-1, 10000, LEAST, LEAST + 1, GREATEST, -9999, 65536};
        for (int v : outside) {
            due("trim(" + v + ")", c.trim(v), OUTSIDE);
        }
        countsAre(c, 10, 1023, 5, 0, 0);
        due("trim(9999)", c.trim(9999), 0);
        countsAre(c, 10, 1023, 5, 0, 0);
        due("trim(0)", c.trim(0), 2);
        countsAre(c, 10, 255, 5, 0, 0);
        due("trim(0) again", c.trim(0), 0);
        due("take(8, 1): it can be taken again", c.take(8, 1), 9);
        due("trim(0) of what was taken again", c.trim(0), 1);
        countsAre(c, 10, 255, 5, 0, 0);
        c = with(1, 1, 2, 2, 3, 3, 4, 4, 5, 5, 6, 6);
        due("trim(0), flat", c.trim(0), NO);
        due("trim(9999), flat", c.trim(9999), NO);
        due("trim(-1), flat", c.trim(-1), OUTSIDE);
        due("trim(10000), flat", c.trim(10000), OUTSIDE);
        countsAre(c, 6, 63, 5, 1, 0);
    }

    private static void promise17Fewest() {
        promise = "17 fewest";
        CompassBias c = ten();
        int[] outside = {-1, 10000, LEAST, LEAST + 1, GREATEST, -9999, 65536};
        for (int v : outside) {
            due("fewest(" + v + ", 0)", c.fewest(v, 0), OUTSIDE);
            due("fewest(" + v + ", 1)", c.fewest(v, 1), OUTSIDE);
            due("fewest(0, " + v + ")", c.fewest(0, v), OUTSIDE);
            due("fewest(9999, " + v + ")", c.fewest(9999, v), OUTSIDE);
        }
        due("fewest(9999, 2)", c.fewest(9999, 2), OUTSIDE);
        due("fewest(0, 0)", c.fewest(0, 0), 2);
        due("fewest(0, 1)", c.fewest(0, 1), 768);
        due("fewest(9999, 0)", c.fewest(9999, 0), 0);
        due("fewest(9999, 1)", c.fewest(9999, 1), 0);
        countsAre(c, 10, 1023, 5, 0, 0);
        for (int i = 0; i < 8; i++) {
            c.take(i, 0);
        }
        due("fewest(9999, 0) of two", c.fewest(9999, 0), NONE);
        due("fewest(9999, 1) of two", c.fewest(9999, 1), NONE);
        due("fewest(9999, 2) of two", c.fewest(9999, 2), OUTSIDE);
        c.take(0, 1);
        due("fewest(0, 0) of three", c.fewest(0, 0), 0);
        due("fewest(0, 1) of three", c.fewest(0, 1), 0);
    }

    private static void promises18And19Bounds() {
        promise = "18 image, 19 restore";
        CompassBias c = cross();
        int[] outside = {-1, 2, LEAST, GREATEST, 32, 33, -32, 256};
        for (int v : outside) {
            due("image(" + v + ")", c.image(v), OUTSIDE);
            due("restore(" + v + "), nothing kept", c.restore(v), OUTSIDE);
        }
        countsAre(c, 4, 15, 5, 0, 0);
        due("restore(0), nothing kept", c.restore(0), STATE);
        due("restore(1), nothing kept", c.restore(1), STATE);
        countsAre(c, 4, 15, 5, 0, 0);
        due("image(0)", c.image(0), 1);
        due("restore(1), 0 alone is kept", c.restore(1), STATE);
        countsAre(c, 4, 15, 5, 0, 1);
        due("image(1)", c.image(1), 1);
        for (int v : outside) {
            due("image(" + v + "), both kept", c.image(v), OUTSIDE);
            due("restore(" + v + "), both kept", c.restore(v), OUTSIDE);
        }
        countsAre(c, 4, 15, 5, 0, 3);
        c = cross();
        due("image(1) first", c.image(1), 1);
        due("restore(0), 1 alone is kept", c.restore(0), STATE);
        countsAre(c, 4, 15, 5, 0, 2);
    }

    private static void promises18And19Contents() {
        promise = "18 image, 19 restore";
        CompassBias c = new CompassBias();
        due("image(0) of nothing", c.image(0), 1);
        addAll(c, 1, 2, 3, 4, -5, 6);
        c.take(1, 0);
        c.need(8);
        due("image(1)", c.image(1), 1);
        c.clear();
        addAll(c, 40, 40, 39, 39);
        c.need(1);
        due("restore(1)", c.restore(1), 1);
        placesAre(c, 1, 2, 3, 4, -5, 6);
        countsAre(c, 3, 5, 8, 1, 3);
        // What happens after it leaves the image as it is.
        c.take(0, 0);
        c.take(1, 1);
        addAll(c, 7, 8);
        c.need(2);
        c.clear();
        addAll(c, 9, 9);
        due("restore(1), the image stays", c.restore(1), 1);
        placesAre(c, 1, 2, 3, 4, -5, 6);
        countsAre(c, 3, 5, 8, 1, 3);
        due("restore(0), kept with no samples", c.restore(0), 1);
        countsAre(c, 0, 0, 5, 1, 3);
        due("of(0, 0)", c.of(0, 0), UNKNOWN);
        due("add after it", c.add(-9, -9), 0);
        due("image(1) in place of the former", c.image(1), 1);
        c.clear();
        due("restore(1)", c.restore(1), 1);
        placesAre(c, -9, -9);
        countsAre(c, 1, 1, 5, 1, 3);
        c = ten();
        c.image(0);
        c.trim(0);
        c.image(1);
        due("restore(0), before the trim", c.restore(0), 1);
        countsAre(c, 10, 1023, 5, 0, 3);
        due("restore(1), after the trim", c.restore(1), 1);
        countsAre(c, 10, 255, 5, 0, 3);
        due("add, full as it was kept", c.add(0, 0), FULL);
    }

    private static void promise20Count() {
        promise = "20 count";
        int[] outside = {-1, 6, LEAST, GREATEST, 256};
        CompassBias c = ten();
        c.take(9, 0);
        c.need(8);
        c.image(1);
        for (int v : outside) {
            due("count(" + v + ")", c.count(v), OUTSIDE);
        }
        countsAre(c, 10, 511, 8, 0, 2);
        c.image(0);
        for (int i = 0; i < 9; i++) {
            c.take(i, 0);
        }
        countsAre(c, 10, 0, 8, 1, 3);
        c.take(9, 1);
        countsAre(c, 10, 512, 8, 1, 3);
        for (int v : outside) {
            due("count(" + v + ") of a new one", new CompassBias().count(v), OUTSIDE);
        }
    }

    private static void theLastOf512Calls() {
        promise = "at most 512 calls";
        CompassBias c = new CompassBias();
        for (int turn = 0; turn < 46; turn++) {
            for (int i = 0; i < 10; i++) {
                c.add(EIGHT[2 * i % 16], EIGHT[(2 * i + 1) % 16]);
            }
            due("clear() in turn " + turn, c.clear(), 10);
        }
        due("add, the 507th call", c.add(0, 0), 0);
        due("add, the 508th call", c.add(1, 0), 1);
        due("add, the 509th call", c.add(0, 1), 2);
        due("need(3), the 510th call", c.need(3), 5);
        due("helps(), the 511th call", c.helps(), 255);
        due("points(0, 0), the 512th call", c.points(0, 0), 5);
    }

    public static void main(String[] args) {
        promise1New();
        promise2Add();
        promise3Clear();
        promise4Take();
        promise5Of();
        promises6And7RoundAndMiddle();
        promise8Off();
        promise9Worst();
        promise10Need();
        promises11And12CoverAndPoor();
        promise13Eighth();
        promise14Points();
        promise15HelpsAtTheBorder();
        promise15HelpsNone();
        promise15HelpsWhereOneIsMissing();
        promise16Trim();
        promise17Fewest();
        promises18And19Bounds();
        promises18And19Contents();
        promise20Count();
        theLastOf512Calls();
        System.out.println("edges: " + checks + " answers, " + wrong + " of them wrong");
        if (wrong != 0) {
            System.exit(1);
        }
    }
}
