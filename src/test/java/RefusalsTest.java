import java.util.ArrayList;
import java.util.Arrays;
import java.util.List;
import java.util.TreeSet;

/**
 * Every call beside each bound of its arguments, in every kind of state: whether it is refused, as what when several
 * refusals fit, and that what is refused changes nothing, in the images neither.
 */
public final class RefusalsTest {
    private static final int UNKNOWN = -1, OUTSIDE = -2, STATE = -3, FULL = -4, NO = -5, NONE = -6;
    private static final long BELOW = -1000000000000000000L;
    /** An object lasts for 512 calls: so many refused ones leave room to make the state and to tell all of it. */
    private static final int REFUSED_AT_ONCE = 150;
    private static final int[] NO_ARGUMENTS = {};

    private static int checks = 0;
    private static int wrong = 0;

    interface Answer {
        long to(CompassBias c, int a, int b);
    }

    interface Making {
        void of(CompassBias c);
    }

    /** What refuses a call whose arguments are as told. */
    enum Hindrance { NOTHING, TEN_SAMPLES, FLAT, POOR, NOT_KEPT }

    /** The bounds are pairs; an argument that is a sample has the bounds 0 and -1 here, as they hang on the state. */
    record Call(String name, boolean firstIsSample, int[] bounds, Hindrance hindrance, boolean isLong, Answer answer) {
        int least(int argument) {
            return bounds[2 * argument];
        }

        int greatest(int argument, State s) {
            return argument == 0 && firstIsSample ? s.many - 1 : bounds[2 * argument + 1];
        }

        boolean isIn(int argument, int value, State s) {
            return 2 * argument >= bounds.length || value >= least(argument) && value <= greatest(argument, s);
        }
    }

    record State(String name, int many, boolean isFlat, boolean isPoor, int images, Making making) {
        CompassBias made() {
            CompassBias c = new CompassBias();
            making.of(c);
            return c;
        }
    }

    private static void report(String what) {
        wrong++;
        if (wrong <= 40) {
            System.out.println(what);
        }
    }

    private static void addAll(CompassBias c, int... places) {
        for (int i = 0; i + 1 < places.length; i += 2) {
            c.add(places[i], places[i + 1]);
        }
    }

    private static void cross(CompassBias c) {
        addAll(c, 13, 5, 3, 15, -7, 5, 3, -5);
    }

    /** One in each eighth about (0, 0), 5 away, and two more that are off. */
    private static void ten(CompassBias c) {
        addAll(c, 5, 0, 3, 4, 0, 5, -4, 3, -5, 0, -3, -4, 0, -5, 4, -3, 6, 1, -7, 2);
    }

    private static void lineOfTen(CompassBias c) {
        for (int i = 0; i < 10; i++) {
            c.add(2 * i - 9, i - 5);
        }
    }

    private static void leaveOut(CompassBias c, int... samples) {
        for (int sample : samples) {
            c.take(sample, 0);
        }
    }

    private static State[] states() {
        return new State[] {
            new State("new", 0, true, true, 0, c -> { }),
            new State("one", 1, true, true, 0, c -> c.add(40, -40)),
            new State("two", 2, true, true, 0, c -> addAll(c, 0, 0, -40, 40)),
            new State("three alike, need 1", 3, true, true, 0, c -> {
                addAll(c, 7, 7, 7, 7, 7, 7);
                c.need(1);
            }),
            new State("three", 3, false, true, 0, c -> addAll(c, -40, -40, -40, -39, -39, -40)),
            new State("a line of ten", 10, true, true, 0, RefusalsTest::lineOfTen),
            new State("a cross, poor", 4, false, true, 0, RefusalsTest::cross),
            new State("a cross, need 4, image 0 of nothing", 4, false, false, 1, c -> {
                c.image(0);
                cross(c);
                c.need(4);
            }),
            new State("ten, image 1", 10, false, false, 2, c -> {
                cross(c);
                leaveOut(c, 2);
                c.image(1);
                c.clear();
                ten(c);
            }),
            new State("ten, need 8, two left out, both images", 10, false, false, 3, c -> {
                c.need(3);
                ten(c);
                c.image(1);
                leaveOut(c, 8, 9);
                c.image(0);
                c.need(8);
            }),
            new State("ten, eight left out", 10, true, true, 0, c -> {
                ten(c);
                leaveOut(c, 0, 1, 2, 4, 5, 6, 8, 9);
            }),
            new State("three, none taken", 3, true, true, 0, c -> {
                addAll(c, 1, 2, 3, 5, 8, 13);
                leaveOut(c, 0, 1, 2);
            }),
            new State("cleared", 0, true, true, 2, c -> {
                ten(c);
                c.need(1);
                c.image(1);
                c.clear();
            }),
            new State("restored, the other image is larger", 4, false, false, 3, c -> {
                ten(c);
                c.image(0);
                c.clear();
                cross(c);
                c.need(2);
                c.image(1);
                c.restore(0);
                c.restore(1);
            }),
            new State("trimmed", 10, false, false, 0, c -> {
                ten(c);
                c.trim(0);
            }),
        };
    }

    private static Call[] calls() {
        int[] place = {-40, 40, -40, 40};
        int[] limit = {0, 9999};
        int[] image = {0, 1};
        int[] sample = {0, -1};
        return new Call[] {
            new Call("add", false, place, Hindrance.TEN_SAMPLES, false, (c, a, b) -> c.add(a, b)),
            new Call("clear", false, NO_ARGUMENTS, Hindrance.NOTHING, false, (c, a, b) -> c.clear()),
            new Call("take", true, new int[] {0, -1, 0, 1}, Hindrance.NOTHING, false, (c, a, b) -> c.take(a, b)),
            new Call("of", true, new int[] {0, -1, 0, 3}, Hindrance.NOTHING, false, (c, a, b) -> c.of(a, b)),
            new Call("round", false, new int[] {0, 2, 0, 1}, Hindrance.FLAT, true, (c, a, b) -> c.round(a, b)),
            new Call("middle", false, new int[] {0, 1, 0, 1}, Hindrance.FLAT, true, (c, a, b) -> c.middle(a, b)),
            new Call("off", true, new int[] {0, -1, 0, 1}, Hindrance.FLAT, true, (c, a, b) -> c.off(a, b)),
            new Call("worst", false, new int[] {0, 1}, Hindrance.FLAT, false, (c, a, b) -> c.worst(a)),
            new Call("need", false, new int[] {1, 8}, Hindrance.NOTHING, false, (c, a, b) -> c.need(a)),
            new Call("cover", false, NO_ARGUMENTS, Hindrance.FLAT, false, (c, a, b) -> c.cover()),
            new Call("poor", false, NO_ARGUMENTS, Hindrance.NOTHING, false, (c, a, b) -> c.poor()),
            new Call("eighth", true, sample, Hindrance.FLAT, false, (c, a, b) -> c.eighth(a)),
            new Call("points", false, place, Hindrance.POOR, false, (c, a, b) -> c.points(a, b)),
            new Call("helps", false, NO_ARGUMENTS, Hindrance.NOTHING, false, (c, a, b) -> c.helps()),
            new Call("trim", false, limit, Hindrance.FLAT, false, (c, a, b) -> c.trim(a)),
            new Call("fewest", false, new int[] {0, 9999, 0, 1}, Hindrance.NOTHING, false, (c, a, b) -> c.fewest(a, b)),
            new Call("image", false, image, Hindrance.NOTHING, false, (c, a, b) -> c.image(a)),
            new Call("restore", false, image, Hindrance.NOT_KEPT, false, (c, a, b) -> c.restore(a)),
            new Call("count", false, new int[] {0, 5}, Hindrance.NOTHING, false, (c, a, b) -> c.count(a)),
        };
    }

    /** The refusal that is due, the first that fits in the document's order; 0: the call is not refused. */
    private static long due(Call call, State s, int a, int b) {
        int refusal = 0;
        if (call.firstIsSample && !call.isIn(0, a, s)) {
            refusal = UNKNOWN;
        } else if (!call.isIn(0, a, s) || !call.isIn(1, b, s)) {
            refusal = OUTSIDE;
        } else if (call.hindrance == Hindrance.NOT_KEPT && (s.images >> a & 1) == 0) {
            refusal = STATE;
        } else if (call.hindrance == Hindrance.TEN_SAMPLES && s.many == 10) {
            refusal = FULL;
        } else if (call.hindrance == Hindrance.FLAT && s.isFlat || call.hindrance == Hindrance.POOR && s.isPoor) {
            refusal = NO;
        }
        return refusal != 0 && call.isLong ? BELOW + refusal : refusal;
    }

    /** Both sides of each bound, the ends of an int, and what shifts or casts would take for a number within. */
    private static int[] values(Call call, State s, int argument) {
        if (2 * argument >= call.bounds.length) {
            return new int[] {0};
        }
        int least = call.least(argument);
        int greatest = call.greatest(argument, s);
        TreeSet<Integer> all = new TreeSet<>(Arrays.asList(Integer.MIN_VALUE, Integer.MIN_VALUE + 1,
            Integer.MAX_VALUE - 1, Integer.MAX_VALUE, -1, 0, 10, least - 1, least, least + 1, greatest - 1, greatest,
            greatest + 1, greatest + 2, least - 32, least + 32, least + 256, least + 65536));
        return all.stream().mapToInt(Integer::intValue).toArray();
    }

    /** All that can be told without a change. */
    private static List<Long> toldNow(CompassBias c) {
        List<Long> told = new ArrayList<>();
        for (int sample = 0; sample < 10; sample++) {
            told.add((long) c.eighth(sample));
            for (int part = 0; part < 2; part++) {
                told.add(c.off(sample, part));
            }
        }
        for (int what = 0; what < 3; what++) {
            for (int part = 0; part < 2; part++) {
                told.add(c.round(what, part));
                told.add(c.middle(what, part));
            }
        }
        int[] others = {c.worst(0), c.worst(1), c.cover(), c.poor(), c.points(0, 0), c.points(-40, 40), c.helps(),
            c.fewest(0, 0), c.fewest(0, 1), c.fewest(30, 1)};
        for (int other : others) {
            told.add((long) other);
        }
        told.addAll(toldOfSamples(c));
        return told;
    }

    private static List<Long> toldOfSamples(CompassBias c) {
        List<Long> told = new ArrayList<>();
        for (int what = 0; what < 6; what++) {
            told.add((long) c.count(what));
        }
        for (int sample = 0; sample < 10; sample++) {
            for (int what = 0; what < 4; what++) {
                told.add((long) c.of(sample, what));
            }
        }
        return told;
    }

    /** All that can be told, and then what the images keep: the object is not as it was after this. */
    private static List<Long> toldToTheEnd(CompassBias c) {
        List<Long> told = toldNow(c);
        for (int k = 0; k < 2; k++) {
            told.add((long) c.restore(k));
            told.addAll(toldOfSamples(c));
        }
        return told;
    }

    private static String text(Call call, State s, int a, int b) {
        String arguments = call.bounds.length == 0 ? "" : call.bounds.length == 2 ? "" + a : a + ", " + b;
        return "state '" + s.name + "': " + call.name + "(" + arguments + ")";
    }

    private static void checkNotRefused(Call call, State s, int a, int b) {
        checks++;
        long got = call.answer.to(s.made(), a, b);
        boolean canBeNone = call.name.equals("eighth") || call.name.equals("points") || call.name.equals("fewest");
        boolean isAnswer = call.isLong ? got > BELOW / 2 : got >= 0 || canBeNone && got == NONE;
        if (!isAnswer) {
            report(text(call, s, a, b) + " answered " + got + ", but it is not to be refused");
        }
    }

    private static void checkRefused(Call call, State s, List<int[]> refused, List<Long> before) {
        CompassBias c = s.made();
        for (int[] r : refused) {
            checks++;
            long got = call.answer.to(c, r[0], r[1]);
            if (got != due(call, s, r[0], r[1])) {
                report(text(call, s, r[0], r[1]) + " answered " + got + ", due is " + due(call, s, r[0], r[1]));
            }
        }
        checks++;
        if (!toldToTheEnd(c).equals(before)) {
            report("state '" + s.name + "': refused calls of " + call.name + " have changed something");
        }
    }

    private static void check(Call call, State s, List<Long> before) {
        List<int[]> refused = new ArrayList<>();
        for (int a : values(call, s, 0)) {
            for (int b : values(call, s, 1)) {
                if (due(call, s, a, b) == 0) {
                    checkNotRefused(call, s, a, b);
                } else {
                    refused.add(new int[] {a, b});
                }
            }
        }
        for (int from = 0; from < refused.size(); from += REFUSED_AT_ONCE) {
            checkRefused(call, s, refused.subList(from, Math.min(from + REFUSED_AT_ONCE, refused.size())), before);
        }
    }

    private static void checkThatAskingChangesNothing(State s) {
        CompassBias c = s.made();
        List<Long> first = toldNow(c);
        checks++;
        if (!first.equals(toldNow(c))) {
            report("state '" + s.name + "': asking has changed something");
        }
    }

    /** The facts of each state stand above by hand; here they are compared with what the object tells. */
    private static void checkFacts(State s) {
        CompassBias c = s.made();
        checks++;
        boolean asTold = c.count(0) == s.many && c.count(4) == (s.isFlat ? 1 : 0) && c.poor() == (s.isPoor ? 1 : 0)
            && c.count(5) == s.images;
        if (!asTold) {
            report("state '" + s.name + "' is not as it is due");
        }
    }

    public static void main(String[] args) {
        for (State s : states()) {
            checkFacts(s);
            checkThatAskingChangesNothing(s);
            List<Long> before = toldToTheEnd(s.made());
            for (Call call : calls()) {
                check(call, s, before);
            }
        }
        System.out.println("refusals: " + checks + " checks, " + wrong + " of them wrong");
        if (wrong != 0) {
            System.exit(1);
        }
    }
}
