import java.math.BigInteger;
import java.util.function.Consumer;

/** Boundary cases of Terms III on KIT, MADE, ASKS, KNOWN and LONG numbers, and of promises 20, 21 and 23 to 26. */
public final class MadeBoundsTest {
    private static final int NONE = Bounds.NONE;
    private static final int FAR = Bounds.FAR;
    private static final int DEEP = Bounds.DEEP;

    public static void main(String[] args) {
        kitUpToSix();
        kitKinds();
        kitX();
        kitXNotAsked();
        kitNoneAnyMore();
        madeOrders();
        madeNumbers();
        madeHundred();
        madeEnd();
        madeNeverBelowZero();
        madeNeverAFraction();
        madeOfOrdersThatCan();
        madeWithinTheLimits();
        madeNoneAtAll();
        madeLowestOfLikeOnes();
        madeNoneSuch();
        madeByWhatIsBegunWith();
        asksUpToSix();
        askNumbers();
        askZero();
        knownNumbers();
        knownFewest();
        knownNone();
        restNumbers();
        restLengths();
        restNone();
        struckNumbers();
        struckOneMark();
        struckNone();
        Due.finish("MadeBoundsTest");
    }

    private static void sentence(String where, String words) {
        Bounds.sentence(where, words);
    }

    private static void due(String what, long got, long want) {
        Bounds.due(what, got, want);
    }

    private static ThinkNumber withKit(int... pairs) {
        ThinkNumber x = new ThinkNumber();
        for (int k = 0; k < pairs.length; k += 2) {
            x.kit(pairs[k], pairs[k + 1]);
        }
        return x;
    }

    private static void kitUpToSix() {
        sentence("Promise 20", "NONE for others, or if there are 6 (kit)");
        ThinkNumber x = new ThinkNumber();
        for (int k = 1; k <= 6; k++) {
            due("the " + k + "th", x.kit(0, 10 * k), k);
            due("there are", x.about(6), k);
        }
        due("the 7th", x.kit(0, 70), NONE);
        due("there are 6 yet", x.about(6), 6);
        for (int k = 1; k <= 6; k++) {
            due("each is as it was", x.made(0, 0, 10 * k, 1, 0), k - 1);
        }
        due("the 7th isn't there", x.made(0, 0, 70, 1, NONE), -2);
        Bounds.refusedBy(Bounds::fill, "one more", NONE, y -> y.kit(0, 1));
        Bounds.refusedBy(Bounds::fill, "one more without X", NONE, y -> y.kit(6, 1));
    }

    private static void kitKinds() {
        sentence("Promise 20", "An ORDER more of the KIT (kind 0 .. 7 ..)");
        long[] ends = {17, 9, 52, 6, 1, 134, 31, 4};
        int[] xs = {4, 4, 4, 2, 4, 4, 0, 0};
        int[] from = {13, 13, 13, 12, 13, 13, 13, 13};
        for (int kind = 0; kind <= 7; kind++) {
            ThinkNumber x = withKit(kind, xs[kind]);
            due("kind " + kind, x.made(from[kind], from[kind], (int) ends[kind], 1, NONE), 1);
        }
        for (int kind : new int[] {-3, -2, 8, 9, 10, FAR, DEEP}) {
            Bounds.refused("kind " + kind, NONE, x -> x.kit(kind, 1));
            Bounds.refused("kind " + kind + " of a", NONE, x -> x.kit(kind, NONE));
        }
    }

    private static void kitX() {
        sentence("Promise 20", "x a NUMBER, NONE: LETTER a");
        for (int kind = 0; kind <= 5; kind++) {
            int k = kind;
            for (int good : new int[] {NONE, 0, 1, 9998, 9999}) {
                due(good + " of kind " + kind, new ThinkNumber().kit(kind, good), 1);
            }
            for (int bad : new int[] {-3, -2, 10000, 10001, 10003, FAR, DEEP}) {
                Bounds.refused(bad + " of kind " + kind, NONE, x -> x.kit(k, bad));
            }
        }
        due("add 0", withKit(0, 0).made(5, 5, 6, 1, NONE), -2);
        due("add 9999", withKit(0, 9999).made(0, 0, 9999, 1, NONE), 1);
        due("add 9998", withKit(0, 9998).made(1, 1, 9999, 1, NONE), 1);
        due("add a", withKit(0, NONE).made(4, 4, 8, 1, NONE), 1);
        due("take a", withKit(1, NONE).made(0, 99, 0, 1, NONE), 1);
        due("by 0 can't be", withKit(3, 0).made(0, 0, 1, 5, NONE), -2);
        due("rest 0 can't be", withKit(4, 0).made(7, 7, 0, 5, NONE), -2);
        due("by 1 can", withKit(3, 1).made(7, 8, 7, 5, NONE), -2);
        due("rest 1 can", withKit(4, 1).made(7, 8, 0, 5, NONE), 1);
    }

    private static void kitXNotAsked() {
        sentence("Promise 20", "of 6 and 7 it isn't asked");
        for (int x : new int[] {NONE, -2, 0, 9999, 10000, FAR, DEEP}) {
            ThinkNumber y = new ThinkNumber();
            due("turn, x " + x, y.kit(6, x), 1);
            due("across, x " + x, y.kit(7, x), 2);
            due("turned", y.made(12, 12, 21, 1, 0), 0);
            due("across", y.made(12, 12, 3, 1, 0), 1);
        }
    }

    private static void kitNoneAnyMore() {
        sentence("Promise 20", "kind NONE: none any more");
        for (int x : new int[] {0, NONE, 10000, FAR, DEEP}) {
            ThinkNumber y = new ThinkNumber();
            due("of none, x " + x, y.kit(NONE, x), 0);
            for (int k = 0; k < 6; k++) {
                y.kit(0, 1);
            }
            due("of 6, x " + x, y.kit(NONE, x), 0);
            due("none there", y.about(6), 0);
            due("nothing can be made", y.made(0, 0, 1, 5, NONE), -2);
            due("the next is the first", y.kit(0, 2), 1);
            due("and another", y.made(0, 0, 2, 1, NONE), 1);
        }
    }

    private static void madeOrders() {
        sentence("Terms III", "the fewest ORDERS of the KIT (each as often as one likes, n at most, 1 to 5)");
        ThinkNumber x = withKit(0, 1);
        for (int n = 1; n <= 5; n++) {
            due(n + " of " + n, x.made(0, 0, n, n, NONE), n);
            due("one less, of " + n, x.made(0, 0, n - 1, n, NONE), n - 1);
            due("one more than " + n, x.made(0, 0, n + 1, n, NONE), -2);
            due("the last of " + n, x.made(0, 0, n, n, n - 1), 0);
        }
        for (int n : new int[] {-1, 0, 6, 7, FAR, DEEP}) {
            Bounds.refused("n " + n, -2, y -> y.made(1, 1, 2, n, NONE));
            Bounds.refused("n " + n + ", none needed", -2, y -> y.made(5, 5, 5, n, NONE));
        }
        ThinkNumber fewest = withKit(0, 1, 0, 3);
        due("the fewest", fewest.made(0, 0, 5, 5, NONE), 3);
        due("not the lowest of more", fewest.made(0, 0, 3, 5, NONE), 1);
        due("it", fewest.made(0, 0, 3, 5, 0), 1);
    }

    private static void madeNumbers() {
        sentence("Terms III", "from each number low .. high (0 .. 9999 ..)");
        ThinkNumber x = withKit(1, NONE);
        due("0", x.made(0, 0, 0, 1, NONE), 0);
        due("0 and 1", x.made(0, 1, 0, 1, NONE), 1);
        due("9999", x.made(9999, 9999, 0, 1, NONE), 1);
        due("9998 and 9999", x.made(9998, 9999, 0, 1, NONE), 1);
        int[][] bad = {{-1, 0}, {-1, -1}, {0, -1}, {9999, 10000}, {10000, 10000}, {10000, 9999}, {6, 5}, {9999, 0},
            {DEEP, 0}, {0, FAR}, {DEEP, FAR}, {FAR, DEEP}, {DEEP, DEEP}, {FAR, FAR}};
        for (int[] pair : bad) {
            Bounds.refused(pair[0] + " .. " + pair[1], -2, y -> y.made(pair[0], pair[1], 0, 5, NONE));
        }
        due("low is high", x.made(5, 5, 0, 1, NONE), 1);
        due("the last of them is asked", withKit(0, 0).made(3, 4, 3, 1, NONE), -2);
        due("the first of them is asked", withKit(0, 0).made(3, 4, 4, 1, NONE), -2);
    }

    private static void madeHundred() {
        sentence("Terms III", "100 of them at most");
        ThinkNumber x = withKit(1, NONE);
        due("99", x.made(1, 99, 0, 1, NONE), 1);
        due("100", x.made(1, 100, 0, 1, NONE), 1);
        due("100 to 9999", x.made(9900, 9999, 0, 1, NONE), 1);
        Bounds.refused("101", -2, y -> y.made(0, 100, 0, 1, NONE));
        Bounds.refused("101 to 9999", -2, y -> y.made(9899, 9999, 0, 1, NONE));
        Bounds.refused("all", -2, y -> y.made(0, 9999, 0, 1, NONE));
    }

    private static void madeEnd() {
        sentence("Terms III", "always come to END (0 .. 9999)");
        ThinkNumber x = withKit(1, 1, 0, 1);
        due("0", x.made(1, 1, 0, 1, NONE), 1);
        due("1", x.made(2, 2, 1, 1, NONE), 1);
        due("9998", x.made(9999, 9999, 9998, 1, NONE), 1);
        due("9999", x.made(9998, 9998, 9999, 1, NONE), 1);
        for (int end : new int[] {-2, -1, 10000, 10001, FAR, DEEP}) {
            Bounds.refused("end " + end, -2, y -> y.made(9999, 9999, end, 1, NONE));
            Bounds.refused("end " + end + " of 0", -2, y -> y.made(0, 0, end, 1, NONE));
        }
    }

    private static void madeNeverBelowZero() {
        sentence("Terms III", "never below 0");
        ThinkNumber x = withKit(1, 5, 0, 8);
        due("6 - 5", x.made(6, 6, 9, 5, 0), 0);
        due("5 - 5 is 0", x.made(5, 5, 8, 5, 0), 0);
        due("4 - 5 is below", x.made(4, 4, 7, 5, 0), 1);
        due("one of them is below", x.made(4, 5, 7, 5, NONE), -2);
        due("no other way", withKit(1, 5).made(4, 4, 0, 5, NONE), -2);
        ThinkNumber y = withKit(1, 5, 2, 0);
        due("nor by the way", y.made(4, 4, 0, 5, 0), 1);
    }

    private static void madeNeverAFraction() {
        sentence("Terms III", "never to a fraction");
        ThinkNumber x = withKit(3, 2, 2, 6);
        due("4 by 2", x.made(4, 4, 12, 5, 0), 0);
        due("5 by 2", x.made(5, 5, 15, 5, 0), 1);
        due("then", x.made(5, 5, 15, 5, 1), 0);
        due("0 by 2", withKit(3, 2).made(0, 0, 0, 1, NONE), 0);
        due("half of 1", withKit(3, 2).made(1, 1, 0, 5, NONE), -2);
        due("half of 1 and 2", withKit(3, 2, 2, 0).made(1, 2, 0, 5, 0), 1);
    }

    private static void madeOfOrdersThatCan() {
        sentence("Terms I", "4 rest X (1 or more ..) and 3 by X (not 0) (made)");
        due("1 .. 5 by themselves", withKit(4, NONE).made(1, 5, 0, 1, NONE), 1);
        due("0 can't be", withKit(4, NONE).made(0, 5, 0, 1, NONE), -2);
        due("1 .. 5 by themselves", withKit(3, NONE).made(1, 5, 1, 1, NONE), 1);
        due("0 can't be", withKit(3, NONE).made(0, 0, 1, 5, NONE), -2);
        due("0 by 0 isn't 0", withKit(3, NONE, 2, 0).made(0, 9, 0, 1, 0), 1);
    }

    private static void madeWithinTheLimits() {
        sentence("Terms I", "No ORDER CAN be that makes its upper number (its size) above 1000000000000 (made)");
        ThinkNumber x = withKit(2, 9999, 4, 7);
        due("9999 thrice, rest 7", x.made(1, 1, 6, 5, NONE), 4);
        due("the last of them", x.made(1, 1, 6, 5, 3), 1);
        due("four times would be above", x.made(1, 1, 4, 5, NONE), -2);
        ThinkNumber y = withKit(2, 1000, 7, 0);
        due("1000000000000 across", y.made(1000, 1000, 1, 4, NONE), 1);
        ThinkNumber most = withKit(2, 1000, 4, 9999);
        due("up to 1000000000000", most.made(1000, 1000, 1, 5, NONE), 4);
        due("above it: not by 4", most.made(2000, 2000, 2, 4, NONE), -2);
        due("but by 5", most.made(2000, 2000, 2, 5, NONE), 5);
        ThinkNumber z = withKit(5, 9999, 7, 0);
        due("twice 9999 behind 9, across", z.made(9, 9, 81, 5, NONE), 3);
        due("thrice would be above", z.made(9, 9, 117, 5, NONE), -2);
    }

    private static void madeNoneAtAll() {
        sentence("Terms III", "(None at all, if low is high and END.)");
        for (int number : new int[] {0, 1, 9998, 9999}) {
            ThinkNumber x = withKit(0, 0, 2, 1);
            due("how many", x.made(number, number, number, 1, NONE), 0);
            due("the first of none", x.made(number, number, number, 1, 0), -2);
            due("with no kit", new ThinkNumber().made(number, number, number, 5, NONE), 0);
        }
        ThinkNumber x = withKit(0, 0, 1, NONE, 0, 5);
        due("END is another", x.made(5, 5, 6, 1, NONE), -2);
        due("END is low alone", x.made(5, 6, 5, 5, NONE), 2);
        due("END is high alone", x.made(4, 5, 5, 5, NONE), 2);
        due("by the first of them", x.made(4, 5, 5, 5, 0), 1);
        due("and", x.made(4, 5, 5, 5, 1), 2);
    }

    private static void madeLowestOfLikeOnes() {
        sentence("Terms III", "of like ones the lowest first ORDER of the KIT, then second, ..");
        ThinkNumber x = withKit(0, 2, 0, 1, 0, 1);
        due("the lowest first", x.made(0, 0, 3, 5, 0), 0);
        due("then the second", x.made(0, 0, 3, 5, 1), 1);
        due("of two alike the lower", withKit(0, 7, 0, 1, 0, 1).made(0, 0, 1, 5, 0), 1);
        ThinkNumber six = withKit(0, 1, 0, 2, 0, 3, 0, 4, 0, 5, 0, 6);
        due("the last of the kit, five times", six.made(0, 0, 30, 5, NONE), 5);
        for (int i = 0; i < 5; i++) {
            due("at " + i, six.made(0, 0, 30, 5, i), 5);
            due("one less, at " + i, six.made(0, 0, 29, 5, i), i == 0 ? 4 : 5);
        }
        due("one more", six.made(0, 0, 31, 5, NONE), -2);
    }

    private static void madeNoneSuch() {
        sentence("Promise 21", "how many ORDERS (i NONE); the i-th, by its number in the KIT. -2: none, there is none"
            + " such, and for others.");
        Bounds.refusedBy(Bounds::use, "how many", 3, x -> x.made(1, 20, 5, 5, NONE));
        Bounds.refusedBy(Bounds::use, "the first", 1, x -> x.made(1, 20, 5, 5, 0));
        Bounds.refusedBy(Bounds::use, "the last", 2, x -> x.made(1, 20, 5, 5, 2));
        for (int i : new int[] {-3, -2, 3, 4, 5, FAR, DEEP}) {
            Bounds.refusedBy(Bounds::use, "the " + i + "th", -2, x -> x.made(1, 20, 5, 5, i));
            Bounds.refusedBy(Bounds::use, "of none at all the " + i + "th", -2, x -> x.made(5, 5, 5, 5, i));
        }
        Bounds.refusedBy(Bounds::use, "none", -2, x -> x.made(1, 20, 5, 2, NONE));
        Bounds.refusedBy(Bounds::use, "the first of none", -2, x -> x.made(1, 20, 5, 2, 0));
    }

    private static void madeByWhatIsBegunWith() {
        sentence("Terms III", "from each number low .. high .. on, as THOUGHT of a");
        Bounds.refusedBy(x -> {
            Bounds.use(x);
            x.think(9, 9, 9, 9);
        }, "whatever was thought", 3, x -> x.made(1, 20, 5, 5, NONE));
        due("thought stays", afterMade().about(10), 8);
        due("a is what it began with", withKit(0, 5, 1, NONE).made(0, 99, 5, 5, NONE), 2);
    }

    private static ThinkNumber afterMade() {
        ThinkNumber x = withKit(1, NONE);
        x.think(8, 7, 6, 5);
        x.made(0, 99, 0, 5, NONE);
        return x;
    }

    private static ThinkNumber withAsks(int... asks) {
        ThinkNumber x = new ThinkNumber();
        for (int m : asks) {
            x.ask(m);
        }
        return x;
    }

    private static void asksUpToSix() {
        sentence("Promise 23", "NONE for others, or if there are 6 (ask)");
        ThinkNumber x = new ThinkNumber();
        int[] asks = {2, 3, 5, 7, 11, 13};
        for (int k = 1; k <= 6; k++) {
            due("the " + k + "th", x.ask(asks[k - 1]), k);
            due("there are", x.about(7), k);
        }
        due("the 7th", x.ask(24), NONE);
        due("there are 6 yet", x.about(7), 6);
        due("the 7th isn't there", x.known(24, false), 2);
        due("the 6th is", x.known(13, true), 5);
        Bounds.refusedBy(Bounds::fill, "one more", NONE, y -> y.ask(2));
        Bounds.refusedBy(Bounds::fill, "one that is there", NONE, y -> y.ask(30));
    }

    private static void askNumbers() {
        sentence("Terms III", "ASKS (6 at most; told): rests by m (2 .. 30).");
        for (int good : new int[] {2, 3, 29, 30}) {
            due("m " + good, new ThinkNumber().ask(good), 1);
        }
        for (int bad : new int[] {-30, -2, -1, 1, 31, 32, FAR, DEEP}) {
            Bounds.refused("m " + bad, NONE, x -> x.ask(bad));
        }
        due("by 2", withAsks(2).known(2, false), 1);
        due("by 30", withAsks(30).known(24, false), 1);
        due("by 29", withAsks(29).known(24, false), 1);
    }

    private static void askZero() {
        sentence("Promise 23", "m 0: none any more");
        ThinkNumber x = new ThinkNumber();
        due("of none", x.ask(0), 0);
        x.ask(2);
        due("of one", x.ask(0), 0);
        due("none there", x.about(7), 0);
        for (int k = 0; k < 6; k++) {
            x.ask(2);
        }
        due("of 6", x.ask(0), 0);
        due("none there", x.about(7), 0);
        due("nothing is known", x.known(2, false), NONE);
        due("the next is the first", x.ask(3), 1);
        due("by it", x.known(3, true), 0);
    }

    private static void knownNumbers() {
        sentence("Terms III", "KNOWN: a number 0 .. n - 1 (n 1 to 24)");
        due("1", withAsks(24).known(1, false), 0);
        due("2", withAsks(24).known(2, false), 1);
        due("23", withAsks(24).known(23, false), 1);
        due("24", withAsks(24).known(24, false), 1);
        due("24 by 23", withAsks(23).known(24, false), NONE);
        due("23 by 23", withAsks(23).known(23, false), 1);
        for (int n : new int[] {-1, 0, 25, 26, 32, 33, FAR, DEEP}) {
            Bounds.refused("n " + n, NONE, x -> x.known(n, false));
            Bounds.refused("first of n " + n, NONE, x -> x.known(n, true));
        }
    }

    private static void knownFewest() {
        sentence("Terms III", "the fewest by which it is surely known, and the lowest first one of these");
        dueKnown(6, 2, 0, 2, 3);
        dueKnown(6, 1, 2, 2, 3, 6);
        dueKnown(6, 1, 1, 2, 6, 6);
        dueKnown(4, 1, 1, 3, 4);
        dueKnown(3, 1, 0, 3, 4);
        dueKnown(24, 2, 1, 2, 3, 8);
        dueKnown(24, 3, 0, 2, 3, 5);
        dueKnown(24, 2, 0, 23, 2);
        dueKnown(24, 1, 5, 2, 3, 4, 5, 6, 24);
        dueKnown(24, NONE, NONE, 2, 2, 2, 2, 2, 2);
        dueKnown(2, 1, 0, 2, 2, 2, 2, 2, 2);
        dueKnown(12, 2, 0, 6, 4);
        dueKnown(12, 2, 0, 4, 6);
        dueKnown(13, NONE, NONE, 4, 6);
    }

    private static void dueKnown(int n, int fewest, int first, int... asks) {
        ThinkNumber x = withAsks(asks);
        String what = n + " by " + java.util.Arrays.toString(asks);
        due("asks for " + what, x.known(n, false), fewest);
        due("first for " + what, x.known(n, true), first);
    }

    private static void knownNone() {
        sentence("Promise 24", "the first one (NONE: no ASK is needed). NONE: none, and for others.");
        Bounds.refusedBy(Bounds::use, "no ask is needed", 0, x -> x.known(1, false));
        Bounds.refusedBy(Bounds::use, "no first one", NONE, x -> x.known(1, true));
        Bounds.refusedBy(x -> { }, "none needed of none", 0, x -> x.known(1, false));
        Bounds.refusedBy(x -> { }, "no asks", NONE, x -> x.known(2, false));
        Bounds.refusedBy(Bounds::use, "6 by 2 and 3", 2, x -> x.known(6, false));
        Bounds.refusedBy(Bounds::use, "the first of them", 0, x -> x.known(6, true));
        Bounds.refusedBy(Bounds::use, "7 by 2 and 3", NONE, x -> x.known(7, false));
        Bounds.refusedBy(Bounds::use, "the first of none", NONE, x -> x.known(7, true));
    }

    private static Consumer<ThinkNumber> withTape(String text) {
        return x -> {
            Bounds.use(x);
            Due.lay(x, text);
        };
    }

    private static void dueRest(String figures, int m, int want) {
        Bounds.refusedBy(withTape(figures), "rest of \"" + figures + "\" by " + m, want, x -> x.rest(m));
    }

    private static void dueStruck(String figures, int m, int want) {
        Bounds.refusedBy(withTape(figures), "struck of \"" + figures + "\" by " + m, want, x -> x.struck(m));
    }

    private static int restOf(String figures, int m) {
        return new BigInteger(figures).mod(BigInteger.valueOf(m)).intValue();
    }

    private static void restNumbers() {
        sentence("Promise 25", "REST of the LONG number by m (1 .. 9999). NONE for others");
        dueRest("12345", 1, 0);
        dueRest("12345", 2, 1);
        dueRest("12345", 9998, 2347);
        dueRest("12345", 9999, 2346);
        dueRest("9998", 9999, 9998);
        dueRest("9999", 9999, 0);
        dueRest("10000", 9999, 1);
        for (int m : new int[] {-1, 0, 10000, 10001, FAR, DEEP}) {
            dueRest("12345", m, NONE);
            Bounds.refused("by " + m, NONE, x -> x.rest(m));
        }
    }

    private static void restLengths() {
        sentence("Terms III", "A LONG number lies on the tape as figures (1 to 300 ..)");
        dueRest("", 7, NONE);
        for (int figure = 0; figure <= 9; figure++) {
            dueRest("" + figure, 7, figure % 7);
        }
        for (int length : new int[] {2, 9, 10, 11, 19, 20, 21, 299, 300}) {
            String nines = "9".repeat(length);
            dueRest(nines, 7, restOf(nines, 7));
            dueRest(nines, 9998, restOf(nines, 9998));
            dueRest("0".repeat(length - 1) + "5", 7, 5);
        }
    }

    private static void restNone() {
        sentence("Promise 25", "and if none lies on the tape, or it has a ?.");
        for (int code = 0; code < 256; code++) {
            if (code < '0' || code > '9') {
                ThinkNumber x = new ThinkNumber();
                Due.lay(x, "12" + (char) code);
                due("behind figures " + code, x.rest(7), NONE);
                Due.lay(x, (char) code + "12");
                due("ahead of figures " + code, x.rest(7), NONE);
                Due.lay(x, "" + (char) code);
                due("alone " + code, x.rest(7), NONE);
            }
        }
        dueRest("1?", 7, NONE);
        dueRest("?", 1, NONE);
        dueRest("7".repeat(299) + "?", 7, NONE);
        dueRest("7".repeat(299) + " ", 7, NONE);
        dueRest("7".repeat(300), 7, 0);
    }

    private static void struckNumbers() {
        sentence("Promise 26", "STRUCK (bits), by m (1 .. 9999). NONE for others");
        dueStruck("12?4", 1, 1023);
        dueStruck("12?4", 2, 1023);
        dueStruck("12?5", 2, 0);
        dueStruck("12?4", 9, 1 << 2);
        dueStruck("999?", 9999, 1 << 9);
        dueStruck("999?", 9998, 1 << 8);
        dueStruck("000?", 9999, 1);
        dueStruck("?", 9, 1 | 1 << 9);
        dueStruck("?", 10, 1);
        dueStruck("?0", 9, 1 | 1 << 9);
        for (int m : new int[] {-1, 0, 10000, 10001, FAR, DEEP}) {
            dueStruck("12?4", m, NONE);
            Bounds.refused("by " + m, NONE, x -> x.struck(m));
        }
    }

    private static void struckOneMark() {
        sentence("Terms III", "figures (1 to 300; up to one ? for a figure)");
        dueStruck("12", 3, NONE);
        dueStruck("1?2", 3, 1 | 1 << 3 | 1 << 6 | 1 << 9);
        dueStruck("1??2", 3, NONE);
        dueRest("1??2", 3, NONE);
        dueStruck("?2?", 3, NONE);
        dueStruck("??", 3, NONE);
        for (int length : new int[] {1, 2, 299, 300}) {
            String ahead = "8".repeat(length - 1);
            for (String text : new String[] {ahead + "?", "?" + ahead}) {
                for (int m : new int[] {7, 9, 11}) {
                    int bits = 0;
                    for (int d = 0; d < 10; d++) {
                        bits |= restOf(text.replace("?", "" + d), m) == 0 ? 1 << d : 0;
                    }
                    dueStruck(text, m, bits);
                }
            }
        }
    }

    private static void struckNone() {
        sentence("Promise 26", "and if no number with a ? lies on the tape.");
        dueStruck("", 3, NONE);
        dueStruck("7".repeat(300), 7, NONE);
        for (int code = 0; code < 256; code++) {
            if ((code < '0' || code > '9') && code != '?') {
                ThinkNumber x = new ThinkNumber();
                Due.lay(x, "1?" + (char) code);
                due("behind it " + code, x.struck(7), NONE);
                Due.lay(x, (char) code + "?1");
                due("ahead of it " + code, x.struck(7), NONE);
                Due.lay(x, "1" + (char) code + "1");
                due("instead of it " + code, x.struck(7), NONE);
            }
        }
    }
}
