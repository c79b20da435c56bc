/** Boundary cases of Terms I (THOUGHT, VALUES, ORDERS, a ROW, SAID) and of promises 2 and 9 to 11. */
public final class ValueBoundsTest {
    private static final int NONE = Bounds.NONE;
    private static final long NO_VALUE = Bounds.NO_VALUE;
    private static final int FAR = Bounds.FAR;
    private static final int DEEP = Bounds.DEEP;

    /** Rows of orders that come to a number close to the greatest upper one. */
    private static final String BELOW_MOST = "add 9901;times 101;times 999;times 1001;";
    private static final String MOST = "add 1000;times 1000;times 1000;times 1000;";
    private static final long UP_MAX = 1000000000000L;

    public static void main(String[] args) {
        thoughtAtFirst();
        thoughtNumbers();
        lowestTerms();
        byNotZero();
        restOneOrMore();
        joinedFigures();
        turnedFigures();
        acrossFigures();
        struckFigure();
        figuresOfEachLength();
        strikeFewerFigures();
        notWholeOrBelowZero();
        upperByAddAndTake();
        upperByTimes();
        upperByJoin();
        upperOfFractions();
        lowerNumber();
        rowBegins();
        rowEnds();
        saidOneBehindTheOther();
        comesSoFar();
        comesForOthers();
        failsOrNone();
        failsForOthers();
        saidNoneSuch();
        saidForOthers();
        Due.finish("ValueBoundsTest");
    }

    private static void sentence(String where, String words) {
        Bounds.sentence(where, words);
    }

    private static void due(String what, long got, long want) {
        Bounds.due(what, got, want);
    }

    /** The value behind the last order of a text on a new object. */
    private static void dueEnd(String text, long up, long low) {
        ThinkNumber x = Due.with(text);
        int last = x.order(0, NONE, false) - 1;
        due("upper end of " + text, x.comes(0, last, false), up);
        due("lower end of " + text, x.comes(0, last, true), low);
        due("it can be: " + text, x.fails(0), NONE);
    }

    /** All orders of the text can be but the last. */
    private static void dueLastCant(String text) {
        ThinkNumber x = Due.with(text);
        int last = x.order(0, NONE, false) - 1;
        due("the last can't be: " + text, x.fails(0), last);
        due("no upper end of " + text, x.comes(0, last, false), NO_VALUE);
        due("no lower end of " + text, x.comes(0, last, true), NO_VALUE);
    }

    private static void thoughtAtFirst() {
        sentence("Terms I", "a number each (0 .. 9999; at first 0)");
        ThinkNumber x = new ThinkNumber();
        for (int letter = 0; letter < 4; letter++) {
            due("at first of " + letter, x.about(10 + letter), 0);
        }
        Due.table(x, "hide a from 5 to 9;hide b from 5 to 9;add b;");
        due("a row by what is thought at first", x.comes(0, 0, false), 0);
    }

    private static void thoughtNumbers() {
        sentence("Promise 2", "THOUGHT: true. False for others.");
        for (int letter = 0; letter < 4; letter++) {
            for (int good : new int[] {0, 1, 9998, 9999}) {
                ThinkNumber x = new ThinkNumber();
                due(good + " of " + letter, thinkAt(x, letter, good), 1);
                for (int other = 0; other < 4; other++) {
                    due("then of " + other, x.about(10 + other), other == letter ? good : 20 + other);
                }
            }
            for (int bad : new int[] {-2, -1, 10000, 10001, FAR, DEEP}) {
                int k = letter;
                Bounds.refused(bad + " of " + letter, 0, x -> thinkAt(x, k, bad));
            }
        }
        Bounds.refused("all too great", 0, x -> x.think(FAR, FAR, FAR, FAR) ? 1 : 0);
    }

    private static long thinkAt(ThinkNumber x, int letter, int number) {
        int[] by = {20, 21, 22, 23};
        by[letter] = number;
        return x.think(by[0], by[1], by[2], by[3]) ? 1 : 0;
    }

    private static void lowestTerms() {
        sentence("Terms I", "VALUES are fractions in lowest terms, the lower number above 0");
        dueEnd("add 5;by 4;", 5, 4);
        dueEnd("add 6;by 4;", 3, 2);
        dueEnd("add 8;by 4;", 2, 1);
        dueEnd("add 1;by 1;", 1, 1);
        dueEnd("take 6;by 4;", -3, 2);
        dueEnd("take 5;by 4;", -5, 4);
        dueEnd("by 9999;", 0, 1);
        dueEnd("add 1;by 6;times 0;", 0, 1);
        dueEnd("add 1;by 6;times 4;", 2, 3);
        dueEnd("add 1;by 2;take 1;", -1, 2);
        dueEnd("add 9;by 6;take 1;add 2;", 5, 2);
        dueEnd("add 1;by 3;times 3;take 1;", 0, 1);
        dueEnd("add 1;by 1000;by 1000;times 1000;times 1000;", 1, 1);
    }

    private static void byNotZero() {
        sentence("Terms I", "3 by X (not 0)");
        dueLastCant("add 6;by 0;");
        dueLastCant("by 0;");
        dueLastCant("take 6;by 0;");
        dueEnd("add 6;by 1;", 6, 1);
        dueEnd("add 6;by 2;", 3, 1);
        dueEnd("add 6;by 9999;", 2, 3333);
        ThinkNumber x = Due.with("hide d from 1 to 9;add 6;by d;");
        due("letter, 0 thought", x.fails(0), 1);
        x.think(0, 0, 0, 1);
        due("letter, 1 thought", x.comes(0, 1, false), 6);
        x.think(0, 0, 0, 9999);
        due("letter, 9999 thought", x.comes(0, 1, true), 3333);
    }

    private static void restOneOrMore() {
        sentence("Terms I", "4 rest X (1 or more; what is left of it by X)");
        dueLastCant("add 5;rest 0;");
        dueLastCant("rest 0;");
        dueEnd("add 5;rest 1;", 0, 1);
        dueEnd("add 5;rest 2;", 1, 1);
        dueEnd("add 5;rest 4;", 1, 1);
        dueEnd("add 5;rest 5;", 0, 1);
        dueEnd("add 5;rest 6;", 5, 1);
        dueEnd("rest 1;", 0, 1);
        dueEnd("rest 9999;", 0, 1);
        dueEnd("add 9998;rest 9999;", 9998, 1);
        dueEnd("add 9999;rest 9999;", 0, 1);
        dueEnd(MOST + "rest 9999;", 1, 1);
        ThinkNumber x = Due.with("hide b from 1 to 9;add 5;rest b;");
        due("letter, 0 thought", x.fails(0), 1);
        x.think(0, 1, 0, 0);
        due("letter, 1 thought", x.comes(0, 1, false), 0);
        x.think(0, 6, 0, 0);
        due("letter, 6 thought", x.comes(0, 1, false), 5);
    }

    private static void joinedFigures() {
        sentence("Terms I", "5 join X (the figures of X come behind its own)");
        int[] xs = {0, 1, 9, 10, 99, 100, 999, 1000, 9999};
        long[] behindSeven = {70, 71, 79, 710, 799, 7100, 7999, 71000, 79999};
        for (int k = 0; k < xs.length; k++) {
            dueEnd("add 7;join " + xs[k] + ";", behindSeven[k], 1);
            dueEnd("join " + xs[k] + ";", xs[k], 1);
            ThinkNumber x = Due.with("hide c from 0 to 1;add 7;join c;");
            x.think(0, 0, xs[k], 0);
            due("letter, thought " + xs[k], x.comes(0, 1, false), behindSeven[k]);
        }
        dueEnd("add 7;join 0009;", 79, 1);
    }

    private static void turnedFigures() {
        sentence("Terms I", "6 turn (its figures the other way round)");
        dueEnd("turn;", 0, 1);
        dueEnd("add 7;turn;", 7, 1);
        dueEnd("add 9;turn;", 9, 1);
        dueEnd("add 10;turn;", 1, 1);
        dueEnd("add 12;turn;", 21, 1);
        dueEnd("add 120;turn;", 21, 1);
        dueEnd("add 102;turn;", 201, 1);
        dueEnd("add 9999;join 9999;join 9998;turn;", 899999999999L, 1);
        dueEnd(MOST + "turn;", 1, 1);
    }

    private static void acrossFigures() {
        sentence("Terms I", "7 across (its figures together)");
        dueEnd("across;", 0, 1);
        dueEnd("add 9;across;", 9, 1);
        dueEnd("add 10;across;", 1, 1);
        dueEnd("add 99;across;", 18, 1);
        dueEnd("add 9999;join 9999;join 9999;across;", 108, 1);
        dueEnd(MOST + "across;", 1, 1);
    }

    private static void struckFigure() {
        sentence("Terms I", "8 strike i (1 .. 9; its i-th figure from the left goes; of one figure: 0 is left)");
        dueEnd("strike 1;", 0, 1);
        dueEnd("add 1;strike 1;", 0, 1);
        dueEnd("add 9;strike 1;", 0, 1);
        dueEnd("add 10;strike 1;", 0, 1);
        dueEnd("add 10;strike 2;", 1, 1);
        dueEnd("add 12;strike 1;", 2, 1);
        dueEnd("add 1005;strike 1;", 5, 1);
        dueEnd("add 1234;strike 2;", 134, 1);
        dueEnd("add 1234;strike 3;", 124, 1);
        dueEnd("add 1234;strike 4;", 123, 1);
        dueEnd("add 1234;join 5678;strike 8;", 1234567, 1);
        dueEnd("add 1234;join 5678;join 9;strike 9;", 12345678, 1);
        dueEnd("add 1234;join 5678;join 90;strike 9;", 123456780, 1);
        dueEnd("add 1234;join 5678;join 9012;strike 1;", 23456789012L, 1);
        dueEnd(MOST + "strike 1;", 0, 1);
        dueEnd(MOST + "strike 2;", 100000000000L, 1);
    }

    private static void figuresOfEachLength() {
        sentence("Terms I", "6 turn .., 7 across .., 8 strike i (of each number of figures)");
        String figures = "123456789123";
        for (int length = 1; length <= 12; length++) {
            long nines = Long.parseLong("9".repeat(length));
            String ofNines = "join 9;".repeat(length);
            dueEnd(ofNines + "turn;", nines, 1);
            dueEnd(ofNines + "across;", 9L * length, 1);
            dueEnd(ofNines + "strike 1;", nines / 10, 1);
            String ofTen = "add 1;" + "join 0;".repeat(length);
            dueEnd(ofTen + "turn;", 1, 1);
            dueEnd(ofTen + "across;", 1, 1);
            dueEnd(ofTen + "strike 1;", 0, 1);
            dueEnd(ofTen + "strike 2;", (nines + 1) / 10, 1);
            String joined = figures.substring(0, length).replaceAll("(.)", "join $1;");
            for (int i = 1; i <= 9; i++) {
                if (i > length) {
                    dueLastCant(joined + "strike " + i + ";");
                } else {
                    String left = "0" + figures.substring(0, i - 1) + figures.substring(i, length);
                    dueEnd(joined + "strike " + i + ";", Long.parseLong(left), 1);
                }
            }
            String turned = new StringBuilder(figures.substring(0, length)).reverse().toString();
            dueEnd(joined + "turn;", Long.parseLong(turned), 1);
        }
    }

    private static void strikeFewerFigures() {
        sentence("Terms I", "or (8) has fewer figures (0 has one)");
        dueEnd("strike 1;", 0, 1);
        dueLastCant("strike 2;");
        dueEnd("add 9;strike 1;", 0, 1);
        dueLastCant("add 9;strike 2;");
        dueEnd("add 10;strike 2;", 1, 1);
        dueLastCant("add 10;strike 3;");
        dueEnd("add 99;strike 2;", 9, 1);
        dueLastCant("add 99;strike 3;");
        dueEnd("add 100;strike 3;", 10, 1);
        dueLastCant("add 9999;join 9999;strike 9;");
        dueEnd("add 9999;join 9999;add 1;strike 9;", 10000000, 1);
        dueLastCant("strike 9;");
    }

    private static void notWholeOrBelowZero() {
        sentence("Terms I", "4 to 8 CAN'T be, if the VALUE isn't whole, or is below 0");
        for (String order : new String[] {"rest 5;", "join 5;", "turn;", "across;", "strike 1;"}) {
            dueLastCant("add 1;by 2;" + order);
            dueLastCant("add 3;by 2;" + order);
            dueLastCant("take 1;by 2;" + order);
            dueLastCant("take 1;" + order);
            dueLastCant("take 2;" + order);
            dueLastCant("add 1;by 1000;by 1000;" + order);
            due("on 0: " + order, Due.with(order).fails(0), NONE);
            due("on 1: " + order, Due.with("add 1;" + order).fails(0), NONE);
            due("on 2 by 2: " + order, Due.with("add 2;by 2;" + order).fails(0), NONE);
        }
        for (String order : new String[] {"add 5;", "take 5;", "times 5;", "by 5;", "say;"}) {
            due("others on 1 by 2: " + order, Due.with("add 1;by 2;" + order).fails(0), NONE);
            due("others on -1: " + order, Due.with("take 1;" + order).fails(0), NONE);
            due("others on -1 by 2: " + order, Due.with("take 1;by 2;" + order).fails(0), NONE);
        }
    }

    private static void upperByAddAndTake() {
        sentence("Terms I", "No ORDER CAN be that makes its upper number (its size) above 1000000000000 (add, take)");
        dueEnd(BELOW_MOST + "add 0;", UP_MAX - 1, 1);
        dueEnd(BELOW_MOST + "add 1;", UP_MAX, 1);
        dueLastCant(BELOW_MOST + "add 2;");
        dueLastCant(MOST + "add 1;");
        dueLastCant(MOST + "add 9999;");
        dueEnd(MOST + "take 1;", UP_MAX - 1, 1);
        dueEnd(MOST + "say;", UP_MAX, 1);
        String belowLeast = BELOW_MOST.replace("add", "take");
        String least = MOST.replace("add", "take");
        dueEnd(belowLeast + "take 0;", 1 - UP_MAX, 1);
        dueEnd(belowLeast + "take 1;", -UP_MAX, 1);
        dueLastCant(belowLeast + "take 2;");
        dueLastCant(least + "take 1;");
        dueEnd(least + "add 1;", 1 - UP_MAX, 1);
        dueEnd(least + "say;", -UP_MAX, 1);
        ThinkNumber x = Due.with("hide d from 0 to 9;" + BELOW_MOST + "add d;");
        x.think(0, 0, 0, 1);
        due("letter, to the greatest", x.comes(0, 4, false), UP_MAX);
        x.think(0, 0, 0, 2);
        due("letter, above it", x.fails(0), 4);
    }

    private static void upperByTimes() {
        sentence("Terms I", "No ORDER CAN be that makes its upper number (its size) above 1000000000000 (times)");
        dueEnd(BELOW_MOST, UP_MAX - 1, 1);
        dueEnd(MOST, UP_MAX, 1);
        dueLastCant("add 9999;times 1000;times 10;add 1;times 137;times 73;");
        dueEnd("add 9999;times 1000;times 10;add 1;times 137;times 72;", 986301369864L, 1);
        dueEnd(MOST.replace("add", "take"), -UP_MAX, 1);
        dueLastCant("take 9999;times 1000;times 10;take 1;times 137;times 73;");
        dueEnd(MOST + "times 1;", UP_MAX, 1);
        dueEnd(MOST + "times 0;", 0, 1);
        dueLastCant(MOST + "times 2;");
        dueLastCant(MOST + "times 9999;");
    }

    private static void upperByJoin() {
        sentence("Terms I", "No ORDER CAN be that makes its upper number (its size) above 1000000000000 (join)");
        String tenth = "add 1000;times 1000;times 1000;times 100;";
        dueEnd("add 9999;join 9999;join 9999;", UP_MAX - 1, 1);
        dueEnd(tenth + "join 0;", UP_MAX, 1);
        dueLastCant(tenth + "join 1;");
        dueLastCant(tenth + "join 9;");
        dueLastCant(tenth + "join 10;");
        dueEnd(tenth + "take 1;join 9;", UP_MAX - 1, 1);
        dueLastCant(tenth + "add 1;join 0;");
        dueLastCant(MOST + "join 0;");
        dueLastCant(MOST + "join 9999;");
        dueEnd("add 9999;join 9999;take 1;join 9999;", 999999989999L, 1);
        dueLastCant("add 9999;join 9999;add 1;join 9999;");
    }

    private static void upperOfFractions() {
        sentence("Terms I", "its upper number (its size) above 1000000000000 (of fractions, in lowest terms)");
        String close = BELOW_MOST + "by 1000;by 1000;";
        dueEnd(close, UP_MAX - 1, 1000000);
        dueLastCant(close + "add 1;");
        dueLastCant(close + "times 3;");
        dueEnd(close + "times 2;", UP_MAX - 1, 500000);
        dueEnd(close + "take 1;", 999998999999L, 1000000);
        dueEnd("add 1;by 1000;by 1000;add 9999;", 9999000001L, 1000000);
        dueEnd(MOST + "by 3;", UP_MAX, 3);
        dueEnd(MOST + "by 7;times 7;", UP_MAX, 1);
        dueLastCant(MOST + "by 7;add 1;");
        dueEnd("add 1;by 1000;by 1000;" + "times 1000;times 1000;".repeat(3), UP_MAX, 1);
        dueLastCant("add 1;by 1000;by 1000;" + "times 1000;times 1000;".repeat(3) + "times 2;");
    }

    private static void lowerNumber() {
        sentence("Terms I", "or the lower one above 1000000");
        dueEnd("add 1;by 999;by 1001;", 1, 999999);
        dueEnd("add 1;by 1000;by 1000;", 1, 1000000);
        dueLastCant("add 1;by 101;by 9901;");
        dueLastCant("add 1;by 1000;by 1000;by 2;");
        dueLastCant("add 1;by 9999;by 9999;");
        dueEnd("take 1;by 1000;by 1000;", -1, 1000000);
        dueLastCant("take 1;by 101;by 9901;");
        dueEnd("add 2;by 1000;by 1000;by 2;", 1, 1000000);
        dueEnd("add 101;by 101;by 9901;", 1, 9901);
        dueEnd("by 9999;by 9999;by 9999;", 0, 1);
        dueEnd("add 1;by 1000;by 1000;by 1;", 1, 1000000);
        dueEnd("add 1;by 1000;by 1000;add 1;take 2;", -999999, 1000000);
        ThinkNumber x = Due.with("hide d from 1 to 9;add 1;by 101;by d;");
        x.think(0, 0, 0, 9900);
        due("letter, 999900", x.comes(0, 2, true), 999900);
        x.think(0, 0, 0, 9901);
        due("letter, 1000001", x.fails(0), 2);
    }

    private static void rowBegins() {
        sentence("Terms I",
            "A ROW of ORDERS begins with the VALUE that was THOUGHT of LETTER a, if that is HIDDEN, else 0");
        ThinkNumber x = Due.with("hide a from 3 to 4;add 1;");
        Due.table(x, "hide b from 3 to 4;hide c from 3 to 4;hide d from 3 to 4;add 1;");
        Due.table(x, "add 1;");
        Due.table(x, "add 1;hide a from 3 to 4;");
        for (int thought : new int[] {0, 1, 2, 3, 4, 5, 9999}) {
            x.think(thought, 11, 12, 13);
            due("hidden, in its span or not", x.comes(0, NONE, false), thought);
            due("whole", x.comes(0, NONE, true), 1);
            due("others are hidden", x.comes(1, NONE, false), 0);
            due("none is hidden", x.comes(2, 0, false), 1);
            due("hidden by the last clause", x.comes(3, 0, false), thought + 1);
        }
    }

    private static void rowEnds() {
        sentence("Terms I", "it ends at the first ORDER that CAN'T be, or behind the last");
        ThinkNumber x = Due.with("by 0;add 1;by 0;");
        due("at the first of all", x.fails(0), 0);
        due("no value behind it", x.comes(0, 1, false), NO_VALUE);
        Due.table(x, "add 1;by 0;by 0;");
        due("at the first that can't be", x.fails(1), 1);
        due("a value ahead of it", x.comes(1, 0, false), 1);
        Due.table(x, "add 1;".repeat(23) + "by 0;");
        due("at the last", x.fails(2), 23);
        due("a value ahead of it", x.comes(2, 22, false), 23);
        due("none behind it", x.comes(2, 23, false), NO_VALUE);
        Due.table(x, "add 1;".repeat(24));
        due("behind the last", x.fails(3), NONE);
        due("a value behind it", x.comes(3, 23, false), 24);
        due("no orders: it ends at once", Due.with("").fails(0), NONE);
    }

    private static void saidOneBehindTheOther() {
        sentence("Terms I", "SAID: VALUES at its says, one behind the other.");
        ThinkNumber x = Due.with("say;" + "add 1;say;".repeat(11) + "say;");
        for (int i = 0; i < 13; i++) {
            due("said " + i, x.said(0, i, false), Math.min(i, 11));
            due("lower of it", x.said(0, i, true), 1);
        }
        due("behind the last", x.said(0, 13, false), NO_VALUE);
        Due.table(x, "add 1;");
        due("no says", x.said(1, 0, false), NO_VALUE);
        Due.table(x, "say;".repeat(24));
        due("the 24th", x.said(2, 23, false), 0);
        due("the 25th", x.said(2, 24, false), NO_VALUE);
        Due.table(x, "add 1;by 2;say;turn;say;");
        due("ahead of the one that can't be", x.said(3, 0, true), 2);
        due("behind it", x.said(3, 1, true), NO_VALUE);
    }

    private static void comesSoFar() {
        sentence("Promise 9", "-10000000000000 if it doesn't come so far");
        ThinkNumber x = Due.with("hide a from 1 to 9;add 1;by 2;turn;add 1;");
        x.think(4, 0, 0, 0);
        due("at first", x.comes(0, NONE, false), 4);
        due("one ahead of the one that can't be", x.comes(0, 1, false), 5);
        due("its lower", x.comes(0, 1, true), 2);
        due("the one that can't be", x.comes(0, 2, false), NO_VALUE);
        due("its lower", x.comes(0, 2, true), NO_VALUE);
        due("one behind it", x.comes(0, 3, false), NO_VALUE);
        x.think(5, 0, 0, 0);
        due("it comes so far now", x.comes(0, 2, false), 3);
        due("and to the last", x.comes(0, 3, false), 4);
        due("lower", x.comes(0, 3, true), 1);
    }

    private static void comesForOthers() {
        sentence("Promise 9", "and for others (comes)");
        for (int i : new int[] {-2, 3, 4, 5, 24, FAR, DEEP}) {
            Bounds.refusedBy(Bounds::use, "order " + i, NO_VALUE, x -> x.comes(2, i, false));
            Bounds.refusedBy(Bounds::use, "lower of order " + i, NO_VALUE, x -> x.comes(2, i, true));
        }
        Bounds.refusedBy(Bounds::use, "NONE, that at first", 0, x -> x.comes(2, NONE, false));
        Bounds.refusedBy(Bounds::use, "order 0", -7, x -> x.comes(2, 0, false));
        Bounds.refusedBy(Bounds::use, "the last order", 4, x -> x.comes(2, 2, true));
        for (int table : new int[] {-1, 4, 5, FAR, DEEP}) {
            Bounds.refused("table " + table, NO_VALUE, x -> x.comes(table, NONE, false));
            Bounds.refused("lower at table " + table, NO_VALUE, x -> x.comes(table, 0, true));
        }
        Bounds.refusedBy(Bounds::use, "the table behind the last", NO_VALUE, x -> x.comes(3, NONE, true));
        Bounds.refusedBy(x -> { }, "no table", NO_VALUE, x -> x.comes(0, NONE, true));
    }

    private static void failsOrNone() {
        sentence("Promise 10", "The ORDER that CAN'T be by what was THOUGHT. NONE: it comes to its end");
        ThinkNumber x = Due.with("hide a from 0 to 9;hide b from 0 to 9;rest a;add 3;rest b;");
        due("the first", x.fails(0), 0);
        x.think(1, 0, 0, 0);
        due("the last", x.fails(0), 2);
        x.think(1, 1, 0, 0);
        due("none", x.fails(0), NONE);
    }

    private static void failsForOthers() {
        sentence("Promise 10", "-2 for others (fails)");
        for (int table : new int[] {-2, -1, 4, FAR, DEEP}) {
            Bounds.refused("table " + table, -2, x -> x.fails(table));
        }
        Bounds.refusedBy(Bounds::use, "the table behind the last", -2, x -> x.fails(3));
        Bounds.refusedBy(Bounds::use, "the last table", NONE, x -> x.fails(2));
        Bounds.refusedBy(x -> { }, "no table", -2, x -> x.fails(0));
    }

    private static void saidNoneSuch() {
        sentence("Promise 11", "-10000000000000 if there is none such (said)");
        Bounds.refusedBy(Bounds::use, "the only one", 12, x -> x.said(0, 0, false));
        Bounds.refusedBy(Bounds::use, "its lower", 1, x -> x.said(0, 0, true));
        for (int i : new int[] {-2, -1, 1, 2, FAR, DEEP}) {
            Bounds.refusedBy(Bounds::use, "said " + i, NO_VALUE, x -> x.said(0, i, false));
            Bounds.refusedBy(Bounds::use, "lower of said " + i, NO_VALUE, x -> x.said(0, i, true));
        }
    }

    private static void saidForOthers() {
        sentence("Promise 11", "and for others (said)");
        for (int table : new int[] {-1, 4, FAR, DEEP}) {
            Bounds.refused("table " + table, NO_VALUE, x -> x.said(table, 0, false));
            Bounds.refused("lower at table " + table, NO_VALUE, x -> x.said(table, 0, true));
        }
        Bounds.refusedBy(Bounds::use, "the table behind the last", NO_VALUE, x -> x.said(3, 0, false));
        Bounds.refusedBy(x -> { }, "no table", NO_VALUE, x -> x.said(0, 0, false));
    }
}
