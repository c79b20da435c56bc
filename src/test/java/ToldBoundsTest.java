import java.util.function.ToLongFunction;

/** Boundary cases of Terms III on what is told of a TABLE's ROW, and of promises 12 to 19 and 22. */
public final class ToldBoundsTest {
    private static final int NONE = Bounds.NONE;
    private static final int SPENT = Bounds.SPENT;
    private static final long NO_VALUE = Bounds.NO_VALUE;
    private static final int FAR = Bounds.FAR;
    private static final int DEEP = Bounds.DEEP;
    private static final long UP_MAX = 1000000000000L;

    private static final String ALL_19999 = "hide a from 0 to 2856;hide b from 0 to 6;";
    private static final String ALL_20000 = "hide a from 0 to 9999;hide b from 0 to 1;";
    private static final String ALL_20001 = "hide a from 0 to 6666;hide b from 0 to 2;";
    /** Below 0, where it can't be turned, by the last of ALL_20000 alone. */
    private static final String ALL_BUT_THE_LAST = "times 0;add 9999;take a;take b;turn;times 0;";
    private static final String ALL_MOST =
        "hide a from 0 to 9999;hide b from 0 to 9999;hide c from 0 to 9999;hide d from 0 to 9999;";

    public static void main(String[] args) {
        claimsUpTo24();
        claimNumbers();
        claimDownZero();
        claimLowestTerms();
        judgeFirstWrong();
        judgeCantBe();
        judgeWithoutAClaim();
        judgeForOthers();
        allInOrder();
        tooManySame();
        tooManyUnlike();
        sameToItsEnd();
        sameForOthers();
        unlikeFirst();
        unlikeForOthers();
        proofOrders();
        proofTimesLetter();
        proofUpperNumbers();
        proofLowerNumber();
        proofLowestTerms();
        proofForOthers();
        heardUpToSix();
        heardNumbers();
        heardDownZero();
        fitsJustWhatWasHeard();
        fitsNone();
        tooManyFits();
        fitsForOthers();
        moreUpTo500();
        moreLowest();
        moreForOthers();
        slipKinds();
        slipToItsEnd();
        slipValues();
        slipForOthers();
        rowsOf24Orders();
        Due.finish("ToldBoundsTest");
    }

    private static void sentence(String where, String words) {
        Bounds.sentence(where, words);
    }

    private static void due(String what, long got, long want) {
        Bounds.due(what, got, want);
    }

    private interface Teller {
        int tell(ThinkNumber x, int up, int down);
    }

    /** What claim(), hear() and slip() take for a VALUE, and what they don't. */
    private static void tellNumbers(Teller teller) {
        for (int up : new int[] {-1000000001, 1000000001, FAR, DEEP}) {
            Bounds.refused("up " + up, NONE, x -> teller.tell(x, up, 1));
            Bounds.refused("up " + up + " by 1000000", NONE, x -> teller.tell(x, up, 1000000));
        }
        for (int down : new int[] {-2, -1, 1000001, 1000002, FAR, DEEP}) {
            Bounds.refused("down " + down, NONE, x -> teller.tell(x, 1, down));
            Bounds.refused("0 by down " + down, NONE, x -> teller.tell(x, 0, down));
        }
        Bounds.refused("1000001 by 1000001", NONE, x -> teller.tell(x, 1000001, 1000001));
    }

    private static void claimsUpTo24() {
        sentence("Promise 12", "NONE for others, or if there are 24.");
        ThinkNumber x = new ThinkNumber();
        for (int k = 1; k <= 24; k++) {
            due("the " + k + "th", x.claim(k, 1), k);
            due("there are", x.about(4), k);
        }
        due("the 25th", x.claim(25, 1), NONE);
        due("there are 24 yet", x.about(4), 24);
        Due.table(x, "add 1;".repeat(24));
        due("all 24 are as they were", x.judge(0), NONE);
        Bounds.refusedBy(Bounds::fill, "one more", NONE, y -> y.claim(1, 1));
        Bounds.refusedBy(Bounds::fill, "one like the last", NONE, y -> y.claim(12, 1));
        due("of none any more there is room", x.claim(0, 0), 0);
        due("again", x.claim(1, 1), 1);
    }

    private static void claimNumbers() {
        sentence("Promise 12", "A CLAIM (up -1000000000 .. 1000000000, down 1 .. 1000000; ..): how many there are.");
        tellNumbers(ThinkNumber::claim);
        dueClaimed("add 1000;times 1000;times 1000;", 1000000000, 1);
        dueClaimed("take 1000;times 1000;times 1000;", -1000000000, 1);
        dueClaimed("add 1000;times 1000;times 1000;take 1;", 999999999, 1);
        dueClaimed("take 1000;times 1000;times 1000;add 1;", -999999999, 1);
        dueClaimed("add 1;by 1000;by 1000;", 1, 1000000);
        dueClaimed("add 1;by 999;by 1001;", 1, 999999);
        dueClaimed("add 1;by 2;", 1, 2);
        dueClaimed("take 1;by 1000;by 1000;", -1, 1000000);
        dueClaimed("times 0;", 0, 1);
        dueClaimed("times 0;", 0, 1000000);
        dueClaimed("add 1000;", 1000000000, 1000000);
        dueClaimed("take 1000;", -1000000000, 1000000);
    }

    /** The claim is right of the text's last order, and one next to it is wrong. */
    private static void dueClaimed(String text, int up, int down) {
        ThinkNumber x = Due.with(text);
        int last = x.order(0, NONE, false) - 1;
        for (int by = 0; by <= 1; by++) {
            x.claim(0, 0);
            for (int i = 0; i < last; i++) {
                x.claim((int) x.comes(0, i, false), (int) x.comes(0, i, true));
            }
            due("claimed", x.claim(up == 1000000000 ? up - by : up + by, down), last + 1);
            String beside = by == 0 ? "" : ", one beside it";
            due("claim of " + up + " by " + down + beside, x.judge(0), by == 0 ? NONE : last);
        }
    }

    private static void claimDownZero() {
        sentence("Promise 12", "(down 0, whatever up: none any more: 0.)");
        for (int up : new int[] {0, 1, -1, 1000000000, 1000000001, -1000000001, FAR, DEEP}) {
            ThinkNumber x = new ThinkNumber();
            due("of none, up " + up, x.claim(up, 0), 0);
            x.claim(1, 1);
            due("of one, up " + up, x.claim(up, 0), 0);
            due("none there", x.about(4), 0);
            for (int k = 0; k < 24; k++) {
                x.claim(7, 1);
            }
            due("of 24, up " + up, x.claim(up, 0), 0);
            due("none there", x.about(4), 0);
            Due.table(x, "add 1;");
            due("none is asked", x.judge(0), NONE);
            due("the next is the first", x.claim(2, 1), 1);
            due("and asked", x.judge(0), 0);
        }
        ThinkNumber x = new ThinkNumber();
        x.hear(5, 1);
        x.claim(1, 0);
        due("what was heard stays", x.about(5), 1);
    }

    private static void claimLowestTerms() {
        sentence("Promise 12", "put in lowest terms");
        ThinkNumber x = Due.with("add 3;by 2;times 0;");
        x.claim(6, 2);
        x.claim(9, 6);
        x.claim(0, 7);
        due("all are so", x.judge(0), NONE);
        x.claim(0, 0);
        x.claim(999999999, 333333);
        due("in lowest terms, but another", x.judge(0), 0);
    }

    private static void judgeFirstWrong() {
        sentence("Terms III", "the first ORDER behind which the VALUE isn't what is CLAIMED");
        for (int wrong = 0; wrong < 24; wrong++) {
            ThinkNumber x = Due.with("add 1;".repeat(24));
            for (int i = 0; i < 24; i++) {
                x.claim(i == wrong || i == 23 ? 0 : i + 1, 1);
            }
            due("wrong at " + wrong, x.judge(0), wrong);
        }
        ThinkNumber x = Due.with("add 1;by 2;");
        x.claim(1, 1);
        x.claim(-1, 2);
        due("the sign", x.judge(0), 1);
        x.claim(0, 0);
        x.claim(1, 1);
        x.claim(1, 3);
        due("the lower number", x.judge(0), 1);
    }

    private static void judgeCantBe() {
        sentence("Terms III", "(or which CAN'T be)");
        ThinkNumber x = Due.with("add 1;by 0;add 1;");
        x.claim(1, 1);
        due("its order has no claim", x.judge(0), NONE);
        x.claim(1, 1);
        due("it has one, the value ahead of it", x.judge(0), 1);
        x.claim(2, 1);
        due("and one behind it", x.judge(0), 1);
        Due.table(x, "by 0;");
        due("the first of all", x.judge(1), 0);
    }

    private static void judgeWithoutAClaim() {
        sentence("Terms III", "ORDERS without a CLAIM, and CLAIMS without an ORDER, aren't asked.");
        ThinkNumber x = Due.with("add 1;add 1;");
        Due.table(x, "");
        due("no claims", x.judge(0), NONE);
        due("neither", x.judge(1), NONE);
        x.claim(1, 1);
        due("one claim of two", x.judge(0), NONE);
        due("a claim without any order", x.judge(1), NONE);
        x.claim(2, 1);
        due("as many", x.judge(0), NONE);
        x.claim(99, 1);
        due("one more", x.judge(0), NONE);
        Due.table(x, "add 1;add 1;add 1;");
        due("now it has an order", x.judge(2), 2);
    }

    private static void dueForTables(String what, long others, ToTable call) {
        for (int table : new int[] {-2, -1, 4, 5, FAR, DEEP}) {
            Bounds.refused(what + " of table " + table, others, x -> call.of(x, table));
        }
        Bounds.refusedBy(Bounds::use, what + " of the table behind the last", others, x -> call.of(x, 3));
        Bounds.refusedBy(x -> { }, what + " of no table", others, x -> call.of(x, 0));
        ThinkNumber x = new ThinkNumber();
        Bounds.use(x);
        x.back();
        due(what + " of a table that is gone", call.of(x, 1), others);
    }

    private interface ToTable {
        long of(ThinkNumber x, int table);
    }

    /** A call that answers and leaves all as it was. */
    private static void dueAsked(String what, long want, ToLongFunction<ThinkNumber> call) {
        Bounds.refusedBy(Bounds::use, what, want, call);
    }

    private static void judgeForOthers() {
        sentence("Promise 13", "JUDGED: the ORDER. NONE: all is so; -2 for others.");
        dueForTables("judge", -2, ThinkNumber::judge);
        dueAsked("the first table", NONE, x -> x.judge(0));
        dueAsked("the last table", 0, x -> x.judge(2));
    }

    private static void allInOrder() {
        sentence("Terms III",
            "of each HIDDEN LETTER its SPAN, of others 0: first by a, then b, c, d, from the least on");
        String hides = "hide d from 3 to 4;hide c from 5 to 6;hide b from 7 to 8;hide a from 1 to 2;";
        dueUnlike(hides + "times 0;add d;", 1, 7, 5, 4);
        dueUnlike(hides + "times 0;add c;", 1, 7, 6, 3);
        dueUnlike(hides + "times 0;add b;", 1, 8, 5, 3);
        dueUnlike(hides + "add 0;", 2, 7, 5, 3);
        dueUnlike(hides + "times 0;add b;take 7;add c;take 5;add d;take 3;strike 1;by d;", NONE, NONE, NONE, NONE);
        dueUnlike("hide b from 7 to 8;add b;", 0, 8, 0, 0);
        dueUnlike("hide d from 9998 to 9999;add d;", 0, 0, 0, 9999);
        dueUnlike("hide a from 0 to 9999;take 9998;times 0;add a;by 9999;times 0;", NONE, NONE, NONE, NONE);
        dueUnlike("hide a from 0 to 9999;times 1000;times 1000;times 100;", 1, 0, 0, 0);
        dueUnlike("hide c from 4 to 4;hide d from 0 to 9;add c;by 4;take 1;times d;", NONE, NONE, NONE, NONE);
        dueUnlike("hide a from 0 to 9999;by 9999;times 0;join 7;", NONE, NONE, NONE, NONE);
        dueUnlike("hide a from 0 to 9999;add 1;by 9999;take 1;times 0;", NONE, NONE, NONE, NONE);
    }

    private static void dueUnlike(String text, int... four) {
        ThinkNumber x = Due.with(text);
        for (int letter = 0; letter < 4; letter++) {
            due("unlike " + letter + " of " + text, x.unlike(0, letter), four[letter]);
        }
    }

    private static void tooManySame() {
        sentence("Terms III", "above 20000 of them: TOO MANY (same)");
        due("19999", Due.with(ALL_19999 + "times 0;").same(0), 1);
        due("20000", Due.with(ALL_20000 + "times 0;").same(0), 1);
        due("20001", Due.with(ALL_20001 + "times 0;").same(0), SPENT);
        due("19999 unlike ones", Due.with(ALL_19999).same(0), 0);
        due("20000 unlike ones", Due.with(ALL_20000).same(0), 0);
        due("20001 unlike ones", Due.with(ALL_20001).same(0), SPENT);
        due("not by the last of 20000", Due.with(ALL_20000 + ALL_BUT_THE_LAST).same(0), 0);
        due("10000 to the fourth", Due.with(ALL_MOST).same(0), SPENT);
        due("as many as wrap to 0", Due.with("hide a from 1 to 8192;hide b from 1 to 8192;"
            + "hide c from 1 to 8192;times 0;").same(0), SPENT);
        due("one", Due.with("hide a from 9999 to 9999;").same(0), 1);
        due("none hidden", Due.with("say;").same(0), 1);
    }

    private static void tooManyUnlike() {
        sentence("Promise 15", "NONE: SAME, and for others. SPENT: TOO MANY. (unlike)");
        for (int letter = 0; letter < 4; letter++) {
            due("same, letter " + letter, Due.with(ALL_20000 + "times 0;").unlike(0, letter), NONE);
            due("20001, letter " + letter, Due.with(ALL_20001 + "times 0;").unlike(0, letter), SPENT);
            due("10000 to the fourth", Due.with(ALL_MOST).unlike(0, letter), SPENT);
        }
        due("19999", Due.with(ALL_19999).unlike(0, 0), 1);
        due("20000, by b", Due.with(ALL_20000 + "times 0;add b;").unlike(0, 1), 1);
        due("the last of 20000", Due.with(ALL_20000 + ALL_BUT_THE_LAST).unlike(0, 0), 9999);
        due("its b", Due.with(ALL_20000 + ALL_BUT_THE_LAST).unlike(0, 1), 1);
    }

    private static void sameToItsEnd() {
        sentence("Terms III", "SAME: if by all of them the ROW comes to its end, with one and the same VALUE.");
        due("by all", Due.with("hide a from 1 to 5;times 0;by 1;").same(0), 1);
        due("not by the first", Due.with("hide a from 0 to 5;times 0;rest a;").same(0), 0);
        due("by the last too", Due.with("hide a from 0 to 5;times 0;add 5;take a;turn;times 0;").same(0), 1);
        due("not by the last", Due.with("hide a from 0 to 6;times 0;add 5;take a;turn;times 0;").same(0), 0);
        due("by none", Due.with("hide a from 0 to 6;by 0;").same(0), 0);
        due("no orders, one", Due.with("hide a from 6 to 6;").same(0), 1);
        due("no orders, two", Due.with("hide a from 6 to 7;").same(0), 0);
        due("no orders, two of b", Due.with("hide b from 6 to 7;").same(0), 1);
        due("the last is another", Due.with("hide a from 0 to 5;by 5;add 1;strike 1;").same(0), 0);
    }

    private static void sameForOthers() {
        sentence("Promise 14", "SAME: 1, 0. SPENT: TOO MANY. NONE for others.");
        dueForTables("same", NONE, ThinkNumber::same);
        dueAsked("0", 0, x -> x.same(0));
        dueAsked("1", 1, x -> x.same(2));
        Bounds.refusedBy(x -> Due.table(x, ALL_20001), "SPENT", SPENT, x -> x.same(0));
    }

    private static void unlikeFirst() {
        sentence("Terms III",
            "UNLIKE: else the first by which it doesn't end as by the first of all (or doesn't come to its end).");
        dueUnlike("hide a from 3 to 9;", 4, 0, 0, 0);
        dueUnlike("hide a from 3 to 9;times 0;", NONE, NONE, NONE, NONE);
        dueUnlike("hide a from 3 to 9;by 0;", 3, 0, 0, 0);
        dueUnlike("hide a from 0 to 9;times 0;by a;", 0, 0, 0, 0);
        dueUnlike("hide a from 3 to 9;times 0;add 8;take a;turn;times 0;", 9, 0, 0, 0);
        dueUnlike("hide a from 3 to 9;times 0;add 9;take a;turn;times 0;", NONE, NONE, NONE, NONE);
        dueUnlike("hide a from 3 to 9;rest 9;strike 1;", NONE, NONE, NONE, NONE);
        dueUnlike("hide a from 3 to 10;strike 1;", NONE, NONE, NONE, NONE);
        dueUnlike("hide a from 3 to 11;strike 1;", 11, 0, 0, 0);
        dueUnlike("hide a from 0 to 1;hide d from 0 to 1;times d;", 1, 0, 0, 1);
    }

    private static void unlikeForOthers() {
        sentence("Promise 15", "and for others (unlike)");
        dueForTables("unlike", NONE, (x, table) -> x.unlike(table, 0));
        for (int letter : new int[] {-2, -1, 4, 5, FAR, DEEP}) {
            dueAsked("letter " + letter, NONE, x -> x.unlike(0, letter));
            due("letter " + letter + ", too many", Due.with(ALL_20001).unlike(0, letter), NONE);
        }
        dueAsked("letter 0", 2, x -> x.unlike(0, 0));
        dueAsked("letter 3", 0, x -> x.unlike(1, 3));
    }

    /** The six parts of a proof. */
    private static void dueProof(String text, long... parts) {
        ThinkNumber x = Due.with(text);
        for (int what = 0; what < 6; what++) {
            due("proof " + what + " of " + text, x.proof(0, what), parts[what]);
        }
    }

    private static void dueNoProof(String text) {
        dueProof(text, NO_VALUE, NO_VALUE, NO_VALUE, NO_VALUE, NO_VALUE, NO_VALUE);
    }

    private static void proofOrders() {
        sentence("Terms III", "if all ORDERS are say, add, take, times NUMBER, by NUMBER (not 0)");
        dueProof("", 0, 0, 0, 0, 0, 1);
        dueProof("hide a from 1 to 2;", 1, 0, 0, 0, 0, 1);
        dueProof("hide d from 1 to 2;", 0, 0, 0, 0, 0, 1);
        dueProof("hide a from 1 to 2;say;add 5;take a;add a;times 3;by 2;", 3, 0, 0, 0, 15, 2);
        dueProof("hide a from 1 to 2;times 0;", 0, 0, 0, 0, 0, 1);
        dueProof("hide a from 1 to 2;by 1;", 1, 0, 0, 0, 0, 1);
        dueProof("hide a from 1 to 2;by 2;", 1, 0, 0, 0, 0, 2);
        dueProof("hide a from 1 to 2;by 9999;", 1, 0, 0, 0, 0, 9999);
        dueNoProof("hide a from 1 to 2;by 0;");
        dueNoProof("by 0;");
        dueNoProof("hide a from 1 to 1;by a;");
        for (String order : new String[] {"rest 5;", "join 5;", "turn;", "across;", "strike 1;"}) {
            dueNoProof(order);
            dueNoProof("hide a from 1 to 2;times 0;" + order + "times 0;");
        }
    }

    private static void proofTimesLetter() {
        sentence("Terms III", "or times LETTER where no LETTER has a factor then but 0");
        dueProof("hide b from 1 to 2;times b;", 0, 0, 0, 0, 0, 1);
        dueProof("hide b from 1 to 2;add 1;times b;", 0, 1, 0, 0, 0, 1);
        dueProof("hide b from 1 to 2;add 3;by 2;times b;add 1;", 0, 3, 0, 0, 2, 2);
        dueNoProof("hide a from 1 to 2;times a;");
        dueNoProof("hide a from 0 to 0;times a;");
        dueNoProof("hide b from 1 to 2;add 1;times b;times b;");
        dueProof("hide a from 1 to 2;take a;times a;", 0, 0, 0, 0, 0, 1);
        dueProof("hide a from 1 to 2;take a;add 7;times a;", 7, 0, 0, 0, 0, 1);
        dueProof("hide a from 1 to 2;times 0;add 7;times a;", 7, 0, 0, 0, 0, 1);
        dueNoProof("hide a from 1 to 2;take a;take a;add 7;times a;");
        for (int factor = 0; factor < 4; factor++) {
            String hides = "hide b from 1 to 2;hide c from 1 to 2;hide d from 1 to 2;hide a from 1 to 2;take a;add 5;";
            char letter = (char) ('a' + factor);
            dueNoProof(hides + "add " + letter + ";times b;");
            dueNoProof(hides + "add " + letter + ";times c;");
            long[] parts = {0, 0, 0, 0, 0, 1};
            parts[factor] = 5;
            dueProof(hides + "add " + letter + ";take " + letter + ";times " + letter + ";", parts);
        }
    }

    private static void proofUpperNumbers() {
        sentence("Terms III", "with all upper ones' sizes 1000000000000 or less .. at each ORDER (in lowest terms)");
        String below = "times 9901;times 101;times 999;times 1001;";
        String most = "times 1000;times 1000;times 1000;times 1000;";
        String above = "times 9999;times 1000;times 10;add a;times 137;times 73;";
        dueProof("hide a from 1 to 2;" + below, UP_MAX - 1, 0, 0, 0, 0, 1);
        dueProof("hide a from 1 to 2;" + most, UP_MAX, 0, 0, 0, 0, 1);
        dueNoProof("hide a from 1 to 2;" + above);
        dueNoProof("hide a from 1 to 2;" + most + "times 2;by 2;");
        dueNoProof("hide a from 1 to 2;" + most + "add a;take a;");
        dueProof("hide a from 1 to 2;" + most + "take a;add a;", UP_MAX, 0, 0, 0, 0, 1);
        for (int letter = 1; letter < 4; letter++) {
            String hide = "hide " + (char) ('a' + letter) + " from 1 to 2;";
            String take = "take " + (char) ('a' + letter) + ";";
            long[] parts = {0, 0, 0, 0, 0, 1};
            parts[letter] = -UP_MAX;
            dueProof(hide + take + most, parts);
            dueNoProof(hide + take + most + take);
            dueNoProof(hide + take + most + "times 3;times 0;");
        }
        dueProof("add 1;" + most, 0, 0, 0, 0, UP_MAX, 1);
        dueProof("take 1;" + most, 0, 0, 0, 0, -UP_MAX, 1);
        dueProof("take 1;" + below, 0, 0, 0, 0, 1 - UP_MAX, 1);
        dueNoProof("add 1;" + most + "add 1;");
        dueNoProof("take 1;" + most + "take 1;");
        dueNoProof("take 1;" + most + "take 9999;add 9999;");
        dueProof("add 1;" + below + "add 1;", 0, 0, 0, 0, UP_MAX, 1);
        dueNoProof("add 1;" + below + "add 2;");
        dueProof("hide a from 1 to 2;add 1;by 1000;by 1000;" + "times 1000;".repeat(6), UP_MAX, 0, 0, 0, UP_MAX, 1);
        dueNoProof("hide a from 1 to 2;" + below + "by 1000;by 1000;add a;");
        dueNoProof("hide a from 1 to 2;" + below + "by 1000;by 1000;times 3;");
        dueProof("hide a from 1 to 2;" + below + "by 1000;by 1000;times 2;", UP_MAX - 1, 0, 0, 0, 0, 500000);
    }

    private static void proofLowerNumber() {
        sentence("Terms III", "and the lower one 1000000 or less at each ORDER (in lowest terms)");
        dueProof("hide a from 1 to 2;by 999;by 1001;", 1, 0, 0, 0, 0, 999999);
        dueProof("hide a from 1 to 2;by 1000;by 1000;", 1, 0, 0, 0, 0, 1000000);
        dueNoProof("hide a from 1 to 2;by 101;by 9901;");
        dueNoProof("hide a from 1 to 2;by 101;by 9901;times 101;");
        dueNoProof("hide a from 1 to 2;by 1000;by 1000;by 2;");
        dueNoProof("hide a from 1 to 2;by 9999;by 9999;");
        dueProof("hide a from 1 to 2;times 2;by 1000;by 1000;by 2;", 1, 0, 0, 0, 0, 1000000);
        dueNoProof("hide a from 1 to 2;times 2;add 1;by 1000;by 1000;by 2;");
        dueProof("add 1;by 1000;by 1000;", 0, 0, 0, 0, 1, 1000000);
        dueNoProof("add 1;by 101;by 9901;");
        dueProof("by 9999;by 9999;by 9999;", 0, 0, 0, 0, 0, 1);
    }

    private static void proofLowestTerms() {
        sentence("Terms III", "all over one lower number (above 0; in lowest terms together)");
        dueProof("hide a from 1 to 2;times 4;add 6;by 8;", 2, 0, 0, 0, 3, 4);
        dueProof("hide a from 1 to 2;times 4;add 8;by 8;", 1, 0, 0, 0, 2, 2);
        dueProof("hide a from 1 to 2;times 8;add 8;by 8;", 1, 0, 0, 0, 1, 1);
        dueProof("hide a from 1 to 2;hide c from 1 to 2;times 6;take c;by 6;", 6, 0, -1, 0, 0, 6);
        dueProof("hide a from 1 to 2;take a;by 6;", 0, 0, 0, 0, 0, 1);
        dueProof("hide a from 1 to 2;by 6;add 1;", 1, 0, 0, 0, 6, 6);
        dueProof("hide a from 1 to 2;times 4;take 6;by 2;", 2, 0, 0, 0, -3, 1);
    }

    private static void proofForOthers() {
        sentence("Promise 16", "-10000000000000: none, and for others.");
        dueForTables("proof", NO_VALUE, (x, table) -> x.proof(table, 5));
        for (int what : new int[] {-2, -1, 6, 7, FAR, DEEP}) {
            dueAsked("what " + what, NO_VALUE, x -> x.proof(0, what));
            dueAsked("none, what " + what, NO_VALUE, x -> x.proof(1, what));
        }
        dueAsked("what 0", 1, x -> x.proof(0, 0));
        dueAsked("what 4", 5, x -> x.proof(0, 4));
        dueAsked("what 5", 1, x -> x.proof(0, 5));
        dueAsked("none", NO_VALUE, x -> x.proof(1, 0));
    }

    private static void heardUpToSix() {
        sentence("Promise 17", "NONE for others, or if there are 6 (hear)");
        ThinkNumber x = new ThinkNumber();
        for (int k = 1; k <= 6; k++) {
            due("the " + k + "th", x.hear(k, 1), k);
            due("there are", x.about(5), k);
        }
        due("the 7th", x.hear(7, 1), NONE);
        due("there are 6 yet", x.about(5), 6);
        Due.table(x, "add 1;say;".repeat(6));
        due("all 6 are as they were", x.fits(0, NONE, 0), 1);
        Due.table(x, "add 1;say;".repeat(7));
        due("seven are said", x.fits(1, NONE, 0), 0);
        Bounds.refusedBy(Bounds::fill, "one more", NONE, y -> y.hear(1, 1));
        due("of none any more there is room", x.hear(0, 0), 0);
        due("again", x.hear(1, 1), 1);
    }

    private static void heardNumbers() {
        sentence("Promise 17", "HEARD (as with claim()): how many there are.");
        tellNumbers(ThinkNumber::hear);
        dueHeard("add 1000;times 1000;times 1000;say;", 1000000000, 1);
        dueHeard("take 1000;times 1000;times 1000;say;", -1000000000, 1);
        dueHeard("add 1000;times 1000;times 1000;take 1;say;", 999999999, 1);
        dueHeard("add 1;by 1000;by 1000;say;", 1, 1000000);
        dueHeard("add 1;by 999;by 1001;say;", 1, 999999);
        dueHeard("add 3;by 2;say;", 9, 6);
        dueHeard("say;", 0, 1000000);
    }

    private static void dueHeard(String text, int up, int down) {
        ThinkNumber x = Due.with(text);
        due("nothing heard", x.fits(0, NONE, 0), 0);
        due("heard", x.hear(up, down), 1);
        due(text + " fits " + up + " by " + down, x.fits(0, NONE, 0), 1);
        x.hear(0, 0);
        x.hear(up == 1000000000 ? up - 1 : up + 1, down);
        due(text + " doesn't fit what is beside it", x.fits(0, NONE, 0), 0);
    }

    private static void heardDownZero() {
        sentence("Promise 17", "down 0: none any more");
        for (int up : new int[] {0, 1, 1000000001, FAR, DEEP}) {
            ThinkNumber x = new ThinkNumber();
            due("of none, up " + up, x.hear(up, 0), 0);
            for (int k = 0; k < 6; k++) {
                x.hear(7, 1);
            }
            due("of 6, up " + up, x.hear(up, 0), 0);
            due("none there", x.about(5), 0);
            due("the next is the first", x.hear(2, 1), 1);
            x.claim(3, 1);
            x.hear(up, 0);
            due("claims stay", x.about(4), 1);
        }
    }

    private static void fitsJustWhatWasHeard() {
        sentence("Terms III", "FITS: all of ALL by which the ROW comes to its end, and SAID is just what was HEARD.");
        ThinkNumber x = Due.with("hide a from 1 to 4;say;add 1;say;");
        x.hear(2, 1);
        due("one heard of two", x.fits(0, NONE, 0), 0);
        x.hear(3, 1);
        due("both", x.fits(0, NONE, 0), 1);
        due("it is", x.fits(0, 0, 0), 2);
        x.hear(3, 1);
        due("one more was heard", x.fits(0, NONE, 0), 0);
        x.hear(0, 0);
        x.hear(3, 1);
        x.hear(2, 1);
        due("in another order", x.fits(0, NONE, 0), 0);
        Due.table(x, "hide a from 1 to 4;say;add 1;say;by 0;");
        x.hear(0, 0);
        x.hear(2, 1);
        x.hear(3, 1);
        due("it doesn't come to its end", x.fits(1, NONE, 0), 0);
        Due.table(x, "hide a from 1 to 4;rest 3;");
        x.hear(0, 0);
        due("nothing said, nothing heard", x.fits(2, NONE, 0), 4);
        Due.table(x, "hide a from 0 to 4;hide b from 0 to 4;rest a;");
        due("all that come to the end", x.fits(3, NONE, 0), 20);
        due("the least", x.fits(3, 0, 0), 1);
        due("the greatest", x.fits(3, 0, 1), 4);
        due("how many unlike ones", x.fits(3, 0, 2), 4);
        due("of b", x.fits(3, 1, 2), 5);
        due("of c, which isn't hidden", x.fits(3, 2, 2), 1);
        due("of c, 0", x.fits(3, 2, 1), 0);
    }

    private static void fitsNone() {
        sentence("Promise 18", "NONE: none fits (fits)");
        ThinkNumber x = Due.with("hide a from 5 to 9;say;");
        int[][] heard = {{4, NONE}, {5, 5}, {9, 9}, {10, NONE}};
        for (int[] pair : heard) {
            x.hear(0, 0);
            x.hear(pair[0], 1);
            boolean some = pair[1] != NONE;
            due("how many, heard " + pair[0], x.fits(0, NONE, 0), some ? 1 : 0);
            due("least, heard " + pair[0], x.fits(0, 0, 0), pair[1]);
            due("greatest, heard " + pair[0], x.fits(0, 0, 1), pair[1]);
            due("unlike ones, heard " + pair[0], x.fits(0, 0, 2), some ? 1 : NONE);
            due("of d, heard " + pair[0], x.fits(0, 3, 0), some ? 0 : NONE);
        }
        x.hear(0, 0);
        Due.table(x, "hide a from 0 to 9999;");
        due("least of 10000", x.fits(1, 0, 0), 0);
        due("greatest of 10000", x.fits(1, 0, 1), 9999);
        due("unlike ones of 10000", x.fits(1, 0, 2), 10000);
        Due.table(x, "hide a from 0 to 2;hide d from 62 to 65;");
        due("each unlike one counts once", x.fits(2, 3, 2), 4);
        Due.table(x, "hide a from 1 to 2;hide b from 1 to 4;times b;say;");
        x.hear(4, 1);
        due("1 by 4 and 2 by 2", x.fits(3, NONE, 0), 2);
        due("the least isn't that of the first", x.fits(3, 1, 0), 2);
        due("the greatest isn't that of the last", x.fits(3, 1, 1), 4);
    }

    private static void tooManyFits() {
        sentence("Promise 18", "SPENT: TOO MANY. (fits)");
        due("19999", Due.with(ALL_19999).fits(0, NONE, 0), 19999);
        due("20000", Due.with(ALL_20000).fits(0, NONE, 0), 20000);
        due("20001", Due.with(ALL_20001).fits(0, NONE, 0), SPENT);
        for (int letter = 0; letter < 4; letter++) {
            for (int what = 0; what <= 2; what++) {
                due("20001, letter " + letter, Due.with(ALL_20001).fits(0, letter, what), SPENT);
                due("none fits of 20001", Due.with(ALL_20001 + "say;").fits(0, letter, what), SPENT);
            }
        }
        due("20000, the greatest", Due.with(ALL_20000).fits(0, 0, 1), 9999);
        due("20000, unlike ones", Due.with(ALL_20000).fits(0, 1, 2), 2);
        due("10000 to the fourth", Due.with(ALL_MOST).fits(0, NONE, 0), SPENT);
    }

    private static void fitsForOthers() {
        sentence("Promise 18", "and for others (fits)");
        dueForTables("fits", NONE, (x, table) -> x.fits(table, NONE, 0));
        dueForTables("fits of a letter", NONE, (x, table) -> x.fits(table, 0, 0));
        for (int letter : new int[] {-3, -2, 4, 5, FAR, DEEP}) {
            dueAsked("letter " + letter, NONE, x -> x.fits(0, letter, 0));
            due("letter " + letter + ", too many", Due.with(ALL_20001).fits(0, letter, 0), NONE);
        }
        for (int what : new int[] {-2, -1, 3, 4, FAR, DEEP}) {
            dueAsked("what " + what, NONE, x -> x.fits(0, 0, what));
            dueAsked("of d, what " + what, NONE, x -> x.fits(0, 3, what));
            due("what " + what + ", too many", Due.with(ALL_20001).fits(0, 0, what), NONE);
            dueAsked("how many, whatever what", 1, x -> x.fits(0, NONE, what));
        }
        dueAsked("letter 0", 7, x -> x.fits(0, 0, 0));
        dueAsked("letter 3", 0, x -> x.fits(0, 3, 1));
        dueAsked("what 2", 1, x -> x.fits(0, 0, 2));
        Bounds.refusedBy(x -> Due.table(x, ALL_20001), "SPENT", SPENT, x -> x.fits(0, NONE, 0));
    }

    private static void moreUpTo500() {
        sentence("Promise 19", "SPENT: above 500 of ALL. (more)");
        due("499", Due.with("hide a from 1 to 499;say;").more(0), 0);
        due("500", Due.with("hide a from 1 to 500;say;").more(0), 0);
        due("501", Due.with("hide a from 1 to 501;say;").more(0), SPENT);
        due("500, none", Due.with("hide a from 0 to 499;rest 499;").more(0), NONE);
        due("500, all told", Due.with("hide a from 0 to 499;rest 500;").more(0), 0);
        due("499 as 1 by 499", Due.with("hide b from 0 to 498;add b;").more(0), 0);
        due("500 as 20 by 25", Due.with("hide a from 0 to 19;hide b from 0 to 24;times 25;add b;").more(0), 1);
        due("501 as 3 by 167", Due.with("hide a from 0 to 2;hide b from 0 to 166;add b;").more(0), SPENT);
        due("500 with no orders", Due.with("hide a from 1 to 500;").more(0), NONE);
        due("501 with no orders", Due.with("hide a from 1 to 501;").more(0), SPENT);
        due("20001", Due.with(ALL_20001 + "say;").more(0), SPENT);
        due("10000 to the fourth", Due.with(ALL_MOST + "say;").more(0), SPENT);
        Bounds.refusedBy(x -> Due.table(x, "hide a from 0 to 500;"), "SPENT", SPENT, x -> x.more(0));
    }

    private static void moreLowest() {
        sentence("Terms III",
            "MORE: the lowest ORDER such that .. no two of ALL by which the ROW comes to its end would be alike.");
        due("the first order tells", Due.with("hide a from 0 to 9;add 1;add 1;").more(0), 0);
        due("the last alone", Due.with("hide a from 0 to 9;times 0;".concat("say;".repeat(20)) + "add a;").more(0), 21);
        due("the 24th clause", Due.with("hide b from 0 to 9;" + "say;".repeat(22) + "add b;").more(0), 22);
        due("none", Due.with("hide a from 0 to 9;rest 9;").more(0), NONE);
        due("with all that is said", Due.with("hide a from 0 to 9;rest 5;say;times 0;add a;by 5;").more(0), 3);
        due("what is said later counts too",
            Due.with("hide a from 0 to 3;hide b from 0 to 3;add 0;times 0;add b;say;").more(0), 0);
        due("one of all", Due.with("hide a from 3 to 3;times 0;").more(0), 0);
        due("one of all, no orders", Due.with("hide a from 3 to 3;").more(0), NONE);
        due("two of all, no orders", Due.with("hide a from 3 to 4;").more(0), NONE);
        due("none comes to its end", Due.with("hide a from 3 to 4;by 0;").more(0), 0);
        due("one comes to its end", Due.with("hide a from 0 to 1;times 0;rest a;").more(0), 0);
        due("those that don't come to it aren't asked",
            Due.with("hide a from 0 to 8;take 4;rest 9;times 0;").more(0), 0);
        due("two come to it, alike", Due.with("hide a from 0 to 2;times 0;rest a;").more(0), NONE);
        due("by their lower numbers", Due.with("hide a from 1 to 9;times 0;add 1;by a;").more(0), 2);
        due("all unlike", Due.with("hide b from 93 to 101;add 100;rest b;").more(0), 1);
        due("the last two alike", Due.with("hide b from 93 to 102;add 100;rest b;").more(0), NONE);
        due("fractions go on",
            Due.with("hide a from 1 to 3;hide b from 0 to 1;times 0;add 1;by a;add b;").more(0), 3);
        moreAskedOfOthersAhead();
    }

    /** What another table left behind must not be seen. */
    private static void moreAskedOfOthersAhead() {
        ThinkNumber x = Due.with("hide a from 5 to 9;hide c from 3 to 5;take 7;turn;times 0;add c;");
        Due.table(x, "hide a from 0 to 14;rest 5;say;times 0;add a;by 5;");
        Due.table(x, "hide a from 7 to 8;hide d from 2 to 3;times 0;add d;add a;times 0;add d;say;");
        int[] wanted = {NONE, 3, 2};
        for (int again = 0; again < 3; again++) {
            for (int table = 0; table < 3; table++) {
                due("of table " + table + " behind the others", x.more(table), wanted[table]);
                x.same(0);
            }
        }
    }

    private static void moreForOthers() {
        sentence("Promise 19", "NONE: none, and for others. (more)");
        dueForTables("more", NONE, ThinkNumber::more);
        dueAsked("the first", 0, x -> x.more(0));
        dueAsked("the last", 0, x -> x.more(2));
    }

    private static void slipKinds() {
        sentence("Terms III", "0 left out, 1 done twice, 2 turned round (add for take, times for by, and the other way;"
            + " of others: none)");
        dueSlips("add 12;add 3;", 9, 5);
        dueSlips("add 12;take 3;", 15, 5);
        dueSlips("add 12;times 3;", 4, 5);
        dueSlips("add 12;by 3;", 36, 5);
        dueSlips("add 12;add 3;", 12, 3);
        dueSlips("add 12;add 3;", 18, 4);
        dueSlips("add 12;times 3;", 108, 4);
        dueSlips("add 12;rest 5;", 12, 3);
        dueSlips("add 12;join 5;", 1255, 4);
        dueSlips("add 12;turn;", 12, 3, 4);
        dueSlips("add 12;across;", 12, 3);
        dueSlips("add 12;strike 1;", 12, 3);
        dueSlips("add 12;say;", 12, 3, 4);
        dueSlips("add 12;by 0;", 0, 5);
        dueSlips("add 12;times 0;", 12, 3);
        dueSlips("", 0);
        dueManySlips();
    }

    /** The slips of a text that come to this end, by number. */
    private static void dueSlips(String text, int end, int... numbers) {
        ThinkNumber x = Due.with(text);
        due("how many of " + text, x.slip(0, end, 1, NONE), numbers.length);
        for (int i = 0; i < numbers.length; i++) {
            due("slip " + i + " of " + text, x.slip(0, end, 1, i), numbers[i]);
        }
        due("behind the last of " + text, x.slip(0, end, 1, numbers.length), NONE);
    }

    private static void dueManySlips() {
        ThinkNumber x = Due.with("add 1;".repeat(24));
        for (int kind = 0; kind < 3; kind++) {
            int end = new int[] {23, 25, 22}[kind];
            due("how many of 24", x.slip(0, end, 1, NONE), 24);
            due("the first", x.slip(0, end, 1, 0), kind);
            due("the last", x.slip(0, end, 1, 23), 69 + kind);
            due("behind it", x.slip(0, end, 1, 24), NONE);
        }
        due("without a slip", x.slip(0, 24, 1, NONE), 0);
    }

    private static void slipToItsEnd() {
        sentence("Terms III", "so that the ROW comes to its end, with a told VALUE");
        ThinkNumber x = Due.with("add 7;by 0;");
        due("left out, it does", x.slip(0, 7, 1, NONE), 1);
        due("its number", x.slip(0, 7, 1, 0), 3);
        Due.table(x, "add 7;by 0;by 0;");
        due("two that can't be", x.slip(1, 7, 1, NONE), 0);
        Due.table(x, "add 1000;times 1000;times 1000;times 1000;by 1000;by 1000;");
        due("done twice it would be above the greatest", x.slip(2, 1000000000, 1, NONE), 2);
        due("by 1000 left out", x.slip(2, 1000000000, 1, 0), 12);
        due("the other", x.slip(2, 1000000000, 1, 1), 15);
        due("times left out", x.slip(2, 1000, 1, NONE), 5);
        Due.table(x, "hide a from 1 to 9;times 2;");
        x.think(6, 0, 0, 0);
        due("by what was thought", x.slip(3, 24, 1, 0), 1);
        due("turned round", x.slip(3, 3, 1, 0), 2);
        due("left out", x.slip(3, 6, 1, 0), 0);
    }

    private static void slipValues() {
        sentence("Promise 22", "SLIP, of a VALUE up by down (as with claim())");
        tellNumbers((x, up, down) -> x.slip(0, up, down, NONE));
        tellNumbers((x, up, down) -> x.slip(0, up, down, 0));
        for (int up : new int[] {0, 1, FAR}) {
            dueAsked("down 0, up " + up, NONE, x -> x.slip(0, up, 0, NONE));
            dueAsked("down 0, up " + up, NONE, x -> x.slip(0, up, 0, 0));
        }
        ThinkNumber x = Due.with("add 1000;times 1000;times 1000;say;");
        due("the greatest", x.slip(0, 1000000000, 1, NONE), 2);
        due("one below it", x.slip(0, 999999999, 1, NONE), 0);
        due("put in lowest terms", x.slip(0, 1000000000, 1000, NONE), 2);
        Due.table(x, "take 1000;times 1000;times 1000;say;");
        due("the least", x.slip(1, -1000000000, 1, NONE), 2);
        Due.table(x, "add 1;by 1000;by 1000;say;");
        due("the greatest lower one", x.slip(2, 1, 1000000, NONE), 2);
        due("one below it", x.slip(2, 1, 999999, NONE), 0);
    }

    private static void slipForOthers() {
        sentence("Promise 22", "how many (i NONE), the i-th by number. NONE if there is none such, and for others.");
        dueForTables("slip", NONE, (x, table) -> x.slip(table, 12, 1, NONE));
        dueForTables("slip 0", NONE, (x, table) -> x.slip(table, 12, 1, 0));
        dueAsked("how many", 2, x -> x.slip(0, 12, 1, NONE));
        dueAsked("the first", 9, x -> x.slip(0, 12, 1, 0));
        dueAsked("the last", 10, x -> x.slip(0, 12, 1, 1));
        for (int i : new int[] {-3, -2, 2, 3, FAR, DEEP}) {
            dueAsked("the " + i + "th", NONE, x -> x.slip(0, 12, 1, i));
        }
        dueAsked("none of them", 0, x -> x.slip(0, 999, 1, NONE));
        dueAsked("the first of none", NONE, x -> x.slip(0, 999, 1, 0));
    }

    private static void rowsOf24Orders() {
        sentence("Terms II", "{CLAUSE}, 24 at most (a ROW of 24 ORDERS, whatever is asked of it)");
        ThinkNumber x = Due.with("add 1;".repeat(23) + "say;");
        Due.table(x, "hide a from 1 to 9;" + "add 1;".repeat(22) + "say;");
        for (int k = 1; k <= 24; k++) {
            x.claim(Math.min(k, 23), 1);
        }
        x.hear(23, 1);
        int[] ends = {23, 22};
        for (int table = 0; table < 2; table++) {
            int last = 23 - table;
            due("orders", x.order(table, NONE, false), last + 1);
            due("the end", x.comes(table, last, false), ends[table]);
            due("fails", x.fails(table), NONE);
            due("said", x.said(table, 0, false), ends[table]);
            due("judge", x.judge(table), table == 0 ? NONE : 22);
            due("same", x.same(table), 1 - table);
            due("unlike", x.unlike(table, 0), table == 0 ? NONE : 2);
            due("the number of the proof", x.proof(table, 4), ends[table]);
            due("a factor of the proof", x.proof(table, 0), table);
            due("fits", x.fits(table, NONE, 0), 1);
            due("more", x.more(table), 0);
            due("slips", x.slip(table, ends[table], 1, NONE), 2);
            due("the last slip", x.slip(table, ends[table], 1, 1), 3 * last + 1);
        }
    }
}
