/** Each promise of the document with ordinary inputs, the edges that it names, and wrong inputs. */
public final class PromisesTest {
    private static final int NONE = ThinkNumber.NONE;
    private static final int SPENT = ThinkNumber.SPENT;
    private static final long NO_VALUE = Due.NO_VALUE;
    private static final int FAR = Integer.MAX_VALUE;
    private static final int DEEP = Integer.MIN_VALUE;

    private static int promise;

    public static void main(String[] args) {
        newObject();
        think();
        feed();
        end();
        table();
        fault();
        faultPlaces();
        order();
        span();
        comes();
        comesAtTheLimits();
        comesOnFigures();
        fails();
        said();
        claim();
        judge();
        same();
        unlike();
        proof();
        proofNone();
        hear();
        fits();
        more();
        kit();
        made();
        slip();
        ask();
        known();
        rest();
        struck();
        play();
        go();
        undo();
        value();
        image();
        back();
        about();
        Due.finish("PromisesTest");
    }

    private static void due(String what, long got, long want) {
        Due.due("promise " + promise + ": " + what, got, want);
    }

    private static void due(String what, boolean got, boolean want) {
        Due.due("promise " + promise + ": " + what, got, want);
    }

    private static void newObject() {
        promise = 1;
        ThinkNumber x = new ThinkNumber();
        due("no tables", x.about(0), 0);
        due("nothing played", x.about(1), NONE);
        for (int what = 2; what <= 8; what++) {
            due("about " + what, x.about(what), 0);
        }
        for (int letter = 0; letter < 4; letter++) {
            due("thought of " + letter, x.about(10 + letter), 0);
        }
        Due.table(x, "say;");
        x.think(1, 2, 3, 4);
        x.claim(1, 1);
        x.hear(1, 1);
        x.kit(0, 1);
        x.ask(2);
        x.play(0);
        x.go();
        due("back to the image of a new object", x.back(), 0);
        due("no tables again", x.about(0), 0);
        due("nothing played again", x.about(1), NONE);
        for (int what = 2; what <= 7; what++) {
            due("about again " + what, x.about(what), 0);
        }
        due("thought of a again", x.about(10), 0);
        due("thought of d again", x.about(13), 0);
    }

    private static void think() {
        promise = 2;
        ThinkNumber x = new ThinkNumber();
        due("think", x.think(0, 9999, 12, 7), true);
        due("a", x.about(10), 0);
        due("b", x.about(11), 9999);
        due("c", x.about(12), 12);
        due("d", x.about(13), 7);
        due("a too big", x.think(10000, 1, 1, 1), false);
        due("b below 0", x.think(1, -1, 1, 1), false);
        due("c too big", x.think(1, 1, FAR, 1), false);
        due("d below 0", x.think(1, 1, 1, DEEP), false);
        due("b stays", x.about(11), 9999);
        due("c stays", x.about(12), 12);
    }

    private static void feed() {
        promise = 3;
        ThinkNumber x = new ThinkNumber();
        due("twenty", x.feed(0x31323334, 0x35363738, 0x39303132, 0x33343536, 0x37383930), 20);
        due("the highest byte of a is first", x.rest(9999), restBySteps("12345678901234567890", 9999));
        for (int k = 2; k <= 15; k++) {
            due("feed", x.feed(0, 0, 0, 0, 0), 20 * k);
        }
        due("above 300", x.feed(0, 0, 0, 0, 0), NONE);
        due("none came", x.about(8), 300);
        x.end(281);
        due("281 and 20", x.feed(0, 0, 0, 0, 0), NONE);
        due("none came", x.about(8), 281);
        x.end(280);
        due("280 and 20", x.feed(0, 0, 0, 0, 0), 300);
    }

    private static void end() {
        promise = 4;
        ThinkNumber x = new ThinkNumber();
        due("end of the empty", x.end(0), 0);
        due("not so many", x.end(1), NONE);
        x.feed(0x31323334, 0, 0, 0, 0);
        due("21 of 20", x.end(21), NONE);
        due("below 0", x.end(-1), NONE);
        due("deep", x.end(DEEP), NONE);
        due("far", x.end(FAR), NONE);
        due("nothing was done", x.about(8), 20);
        due("20 of 20", x.end(20), 20);
        due("three", x.end(3), 3);
        due("the first three", x.rest(9999), 123);
    }

    private static void table() {
        promise = 5;
        ThinkNumber x = new ThinkNumber();
        due("the empty text", x.table(), 0);
        due("no orders", x.order(0, NONE, false), 0);
        due("words close to digits", Due.table(x, "hide a from1to20;add3;\n\n times a;"), 1);
        due("the tape is empty then", x.about(8), 0);
        due("orders", x.order(1, NONE, false), 2);
        due("a fault", Due.table(x, "add;"), NONE);
        due("the tape was read", x.about(8), 0);
        due("tables", x.about(0), 2);
        due("third", Due.table(x, "say;"), 2);
        due("fourth", Due.table(x, "turn;"), 3);
        Due.lay(x, "add foo;");
        due("there are 4", x.table(), NONE);
        due("the tape stays", x.about(8), 8);
        due("it was not read", x.fault(0), 0);
        due("of 300 bytes", tableOfLength(300), 0);
        due("24 clauses", Due.table(new ThinkNumber(), "say;".repeat(24)), 0);
        due("24 clauses with hide", Due.table(new ThinkNumber(), "hide a from 0 to 0;" + "say;".repeat(23)), 0);
    }

    private static int tableOfLength(int length) {
        return Due.table(new ThinkNumber(), " ".repeat(length - 4) + "say;");
    }

    private static void fault() {
        promise = 6;
        ThinkNumber x = new ThinkNumber();
        due("ahead of any", x.fault(0), NONE);
        due("its place ahead of any", x.fault(1), NONE);
        Due.table(x, "add 1");
        due("a fault", x.fault(0), 1);
        due("its place", x.fault(1), 5);
        due("others", x.fault(2), NONE);
        due("others", x.fault(-1), NONE);
        x.image();
        Due.table(x, "say;");
        due("without", x.fault(0), 0);
        due("place without", x.fault(1), NONE);
        x.back();
        due("not in the image", x.fault(0), 0);
    }

    private static void faultPlaces() {
        wrongText("say", 1, 3);
        wrongText("say  \n ", 1, 7);
        wrongText("Say;", 1, 0);
        wrongText("sa y;", 1, 0);
        wrongText("sayz;", 1, 0);
        wrongText("say Z;", 1, 4);
        wrongText("sayAZ;", 1, 0);
        wrongText("addZ 10000;", 1, 0);
        wrongText("addA 10000;", 1, 0);
        wrongText("addz 10000;", 1, 0);
        wrongText("add@10000;", 1, 3);
        wrongText("add[1;", 1, 3);
        wrongText("add`1;", 1, 3);
        wrongText("add{1;", 1, 3);
        wrongText("add 1/2;", 1, 5);
        wrongText("add 1:2;", 1, 5);
        wrongText(" ;", 1, 1);
        wrongText("7;", 1, 0);
        wrongText("12345;", 1, 0);
        wrongText("say;;", 1, 4);
        wrongText("say 12345;", 1, 4);
        wrongText("add 1,", 1, 5);
        wrongText("add\t1;", 1, 3);
        wrongText("add -1;", 1, 4);
        wrongText("add 1.5;", 1, 5);
        wrongText("add " + (char) 0 + ";", 1, 4);
        wrongText("add " + (char) 233 + ";", 1, 4);
        wrongText("add e;", 1, 4);
        wrongText("add A;", 1, 4);
        wrongText("add aa;", 1, 4);
        wrongText("add ;", 1, 4);
        wrongText("strike a;", 1, 7);
        wrongText("strike ;", 1, 7);
        wrongText("turn a;", 1, 5);
        wrongText("hide 1 from 1 to 2;", 1, 5);
        wrongText("hide a to 1 from 2;", 1, 7);
        wrongText("hide a from b to 2;", 1, 12);
        wrongText("hide a from 1 from 2;", 1, 14);
        wrongText("hide a from 1 to ;", 1, 17);
        wrongText("hide a from 1 to 2", 1, 18);
        wrongText("hide a from 1 to 2 say;", 1, 19);
        wrongText("hide a", 1, 6);
        wrongText("hide", 1, 4);
        wrongText("add 10000;", 2, 4);
        wrongText("add 99999999999999999999999999;", 2, 4);
        wrongText("rest 4294967297;", 2, 5);
        wrongText("strike 0;", 2, 7);
        wrongText("strike 10;", 2, 7);
        wrongText("strike 000;", 2, 7);
        wrongText("hide a from 10000 to 2;", 2, 12);
        wrongText("hide a from 1 to 10000;", 2, 17);
        wrongText("hide a from 5 to 10000;", 2, 17);
        wrongText("hide a from 1 to 2;hide a from 1 to 2;", 3, 24);
        wrongText("hide a from 1 to 2;hide a fr", 3, 24);
        wrongText("add a;", 4, 4);
        wrongText("add a;hide a from 1 to 2;", 4, 4);
        wrongText("hide a from 1 to 2;add b;", 4, 23);
        wrongText("hide a from 5 to 4;", 5, 17);
        wrongText("say;".repeat(24) + "say;", 6, 96);
        wrongText("say;".repeat(24) + "hide", 6, 96);
        wrongText("say;".repeat(24) + "foo", 1, 96);
        wrongText("say;".repeat(24) + ";", 1, 96);
        wrongText("say;".repeat(24) + " \nby 0;", 6, 98);
        rightText("add 0009999;");
        rightText("add " + "0".repeat(200) + "1;");
        rightText("hide d from 7 to 7;add d;by 0;rest 0;");
        rightText("strike 09;");
        rightText("say;".repeat(24) + " \n ");
        rightText(" \n ");
    }

    private static void wrongText(String text, int fault, int place) {
        ThinkNumber x = new ThinkNumber();
        due("\"" + text + "\"", Due.table(x, text), NONE);
        due("fault of \"" + text + "\"", x.fault(0), fault);
        due("place in \"" + text + "\"", x.fault(1), place);
        due("no table of \"" + text + "\"", x.about(0), 0);
    }

    private static void rightText(String text) {
        ThinkNumber x = new ThinkNumber();
        due("\"" + text + "\"", Due.table(x, text), 0);
        due("no fault of \"" + text + "\"", x.fault(0), 0);
        due("no place in \"" + text + "\"", x.fault(1), NONE);
    }

    private static void order() {
        promise = 7;
        ThinkNumber x = Due.with("hide a from 1 to 2;hide d from 1 to 2;add 5;take a;times d;by 9999;rest 0;"
            + "join 12;turn;across;strike 3;say;");
        int[] xs = {5, 10000, 10003, 9999, 0, 12, 0, 0, 3, 0};
        due("how many", x.order(0, NONE, false), 10);
        due("how many", x.order(0, NONE, true), 10);
        for (int i = 0; i < 10; i++) {
            due("kind " + i, x.order(0, i, false), i);
            due("x " + i, x.order(0, i, true), xs[i]);
        }
        due("behind the last", x.order(0, 10, false), NONE);
        due("below NONE", x.order(0, -2, false), NONE);
        due("far", x.order(0, FAR, false), NONE);
        due("deep", x.order(0, DEEP, true), NONE);
        due("no such table", x.order(1, 0, false), NONE);
        due("no such table", x.order(-1, NONE, false), NONE);
        due("no such table", x.order(4, NONE, false), NONE);
    }

    private static void span() {
        promise = 8;
        ThinkNumber x = Due.with("hide b from 0 to 9999;say;hide d from 7 to 7;");
        due("first of b", x.span(0, 1, false), 0);
        due("last of b", x.span(0, 1, true), 9999);
        due("first of d", x.span(0, 3, false), 7);
        due("last of d", x.span(0, 3, true), 7);
        due("a isn't hidden", x.span(0, 0, false), NONE);
        due("c isn't hidden", x.span(0, 2, true), NONE);
        due("no such letter", x.span(0, 4, false), NONE);
        due("no such letter", x.span(0, -1, true), NONE);
        due("no such table", x.span(1, 1, false), NONE);
        due("no such table", x.span(DEEP, 1, false), NONE);
        Due.table(x, "say;");
        due("a table of its own", x.span(1, 1, false), NONE);
    }

    private static void comes() {
        promise = 9;
        ThinkNumber x = Due.with("hide a from 1 to 20;hide b from 1 to 3;add 3;by 6;times b;take 1;say;by 0;say;");
        x.think(50, 4, 0, 0);
        dueValue(x, 0, NONE, 50, 1);
        dueValue(x, 0, 0, 53, 1);
        dueValue(x, 0, 1, 53, 6);
        dueValue(x, 0, 2, 106, 3);
        dueValue(x, 0, 3, 103, 3);
        dueValue(x, 0, 4, 103, 3);
        dueValue(x, 0, 5, NO_VALUE, NO_VALUE);
        dueValue(x, 0, 6, NO_VALUE, NO_VALUE);
        dueValue(x, 0, 7, NO_VALUE, NO_VALUE);
        dueValue(x, 0, -2, NO_VALUE, NO_VALUE);
        dueValue(x, 0, FAR, NO_VALUE, NO_VALUE);
        dueValue(x, 0, DEEP, NO_VALUE, NO_VALUE);
        dueValue(x, 1, NONE, NO_VALUE, NO_VALUE);
        dueValue(x, -1, NONE, NO_VALUE, NO_VALUE);
        Due.table(x, "hide b from 1 to 3;add 1;hide c from 0 to 1;");
        dueValue(x, 1, NONE, 0, 1);
        Due.table(x, "add 1;hide a from 1 to 3;");
        dueValue(x, 2, 0, 51, 1);
        Due.table(x, "take 7;by 4;times 0;");
        dueValue(x, 3, 1, -7, 4);
        dueValue(x, 3, 2, 0, 1);
        due("nothing is played by it", x.about(1), NONE);
    }

    private static void dueValue(ThinkNumber x, int table, int i, long up, long low) {
        due("upper of " + table + ", " + i, x.comes(table, i, false), up);
        due("lower of " + table + ", " + i, x.comes(table, i, true), low);
    }

    private static void comesAtTheLimits() {
        dueEnd("add 1000;times 1000;times 1000;times 1000;", 1000000000000L, 1);
        dueEnd("add 1000;times 1000;times 1000;times 1000;add 1;", NO_VALUE, NO_VALUE);
        dueEnd("add 1000;times 1000;times 1000;times 1000;add 0;turn;", 1, 1);
        dueEnd("take 1000;times 1000;times 1000;times 1000;", -1000000000000L, 1);
        dueEnd("take 1000;times 1000;times 1000;times 1000;take 1;", NO_VALUE, NO_VALUE);
        dueEnd("add 1;by 1000;by 1000;", 1, 1000000);
        dueEnd("add 1;by 1000;by 1000;by 2;", NO_VALUE, NO_VALUE);
        dueEnd("add 2;by 1000;by 1000;by 2;", 1, 1000000);
        dueEnd("add 1;by 101;by 9901;", NO_VALUE, NO_VALUE);
        dueEnd("add 1000;times 1000;times 1000;times 1000;by 7;times 7;", 1000000000000L, 1);
        dueEnd("add 9999;join 9999;join 9999;", 999999999999L, 1);
        dueEnd("add 9999;join 9999;join 9999;join 0;", NO_VALUE, NO_VALUE);
        dueEnd("add 1000;join 0;join 0;join 0;join 0;join 0;join 0;join 0;join 0;join 0;", 1000000000000L, 1);
        dueEnd("add 1000;join 0;join 0;join 0;join 0;join 0;join 0;join 0;join 0;join 1;", NO_VALUE, NO_VALUE);
        dueEnd("add 1000;times 1000;times 1000;times 1000;strike 1;", 0, 1);
        dueEnd("add 1000;times 1000;times 1000;times 1000;strike 9;", 100000000000L, 1);
    }

    private static void comesOnFigures() {
        dueEnd("rest 5;", 0, 1);
        dueEnd("add 17;rest 5;", 2, 1);
        dueEnd("add 17;rest 1;", 0, 1);
        dueEnd("add 17;rest 0;", NO_VALUE, NO_VALUE);
        dueEnd("take 1;rest 5;", NO_VALUE, NO_VALUE);
        dueEnd("add 1;by 2;rest 5;", NO_VALUE, NO_VALUE);
        dueEnd("join 0;", 0, 1);
        dueEnd("join 12;", 12, 1);
        dueEnd("add 3;join 0;", 30, 1);
        dueEnd("add 3;join 405;", 3405, 1);
        dueEnd("add 1;by 2;join 0;", NO_VALUE, NO_VALUE);
        dueEnd("take 1;join 0;", NO_VALUE, NO_VALUE);
        dueEnd("turn;", 0, 1);
        dueEnd("add 1230;turn;", 321, 1);
        dueEnd("take 1;turn;", NO_VALUE, NO_VALUE);
        dueEnd("add 9081;across;", 18, 1);
        dueEnd("across;", 0, 1);
        dueEnd("add 1;by 3;across;", NO_VALUE, NO_VALUE);
        dueEnd("strike 1;", 0, 1);
        dueEnd("strike 2;", NO_VALUE, NO_VALUE);
        dueEnd("add 7;strike 1;", 0, 1);
        dueEnd("add 1034;strike 1;", 34, 1);
        dueEnd("add 1034;strike 2;", 134, 1);
        dueEnd("add 1034;strike 4;", 103, 1);
        dueEnd("add 1034;strike 5;", NO_VALUE, NO_VALUE);
        dueEnd("take 5;strike 1;", NO_VALUE, NO_VALUE);
        dueEnd("take 5;by 2;say;", -5, 2);
    }

    private static void dueEnd(String text, long up, long low) {
        ThinkNumber x = Due.with(text);
        int last = x.order(0, NONE, false) - 1;
        due("upper end of " + text, x.comes(0, last, false), up);
        due("lower end of " + text, x.comes(0, last, true), low);
    }

    private static void fails() {
        promise = 10;
        ThinkNumber x = Due.with("hide a from 1 to 9;hide b from 1 to 9;say;by b;turn;by b;");
        x.think(8, 2, 0, 0);
        due("comes to its end", x.fails(0), NONE);
        x.think(8, 3, 0, 0);
        due("not whole", x.fails(0), 2);
        x.think(8, 0, 0, 0);
        due("by 0", x.fails(0), 1);
        due("no such table", x.fails(1), -2);
        due("no such table", x.fails(-1), -2);
        Due.table(x, "");
        due("no orders", x.fails(1), NONE);
    }

    private static void said() {
        promise = 11;
        ThinkNumber x = Due.with("hide a from 1 to 9;say;by 4;say;turn;say;");
        x.think(6, 0, 0, 0);
        due("first", x.said(0, 0, false), 6);
        due("first low", x.said(0, 0, true), 1);
        due("second", x.said(0, 1, false), 3);
        due("second low", x.said(0, 1, true), 2);
        due("the row ends ahead of the third", x.said(0, 2, false), NO_VALUE);
        x.think(8, 0, 0, 0);
        due("third", x.said(0, 2, false), 2);
        due("none such", x.said(0, 3, false), NO_VALUE);
        due("none such", x.said(0, NONE, false), NO_VALUE);
        due("none such", x.said(0, FAR, true), NO_VALUE);
        due("no such table", x.said(1, 0, false), NO_VALUE);
        due("no such table", x.said(DEEP, 0, true), NO_VALUE);
    }

    private static void claim() {
        promise = 12;
        ThinkNumber x = new ThinkNumber();
        due("least", x.claim(-1000000000, 1), 1);
        due("greatest", x.claim(1000000000, 1000000), 2);
        due("up too big", x.claim(1000000001, 1), NONE);
        due("up too small", x.claim(-1000000001, 1), NONE);
        due("down too big", x.claim(1, 1000001), NONE);
        due("down below 0", x.claim(1, -1), NONE);
        due("deep", x.claim(DEEP, DEEP), NONE);
        for (int k = 3; k <= 24; k++) {
            due("claim", x.claim(k, 7), k);
        }
        due("there are 24", x.claim(1, 1), NONE);
        due("how many", x.about(4), 24);
        due("whatever up", x.claim(FAR, 0), 0);
        due("none any more", x.about(4), 0);
        due("again", x.claim(0, 5), 1);
    }

    private static void judge() {
        promise = 13;
        ThinkNumber x = Due.with("hide a from 1 to 9;times 2;by 3;turn;say;");
        x.think(4, 0, 0, 0);
        due("no claims", x.judge(0), NONE);
        x.claim(8, 1);
        x.claim(32, 12);
        due("orders without a claim aren't asked", x.judge(0), NONE);
        x.claim(8, 3);
        due("it can't be", x.judge(0), 2);
        x.think(6, 0, 0, 0);
        due("the first wrong one", x.judge(0), 0);
        x.claim(0, 0);
        x.claim(12, 1);
        x.claim(8, 2);
        x.claim(4, 1);
        x.claim(-4, 1);
        due("the fourth", x.judge(0), 3);
        x.think(7, 0, 0, 0);
        due("first now", x.judge(0), 0);
        Due.table(x, "add 12;");
        due("claims without an order aren't asked", x.judge(1), NONE);
        due("no such table", x.judge(2), -2);
        due("no such table", x.judge(-1), -2);
    }

    private static void same() {
        promise = 14;
        dueSame("hide a from 1 to 20;times 2;add 10;by 2;take a;", 1, NONE, NONE);
        dueSame("hide a from 3 to 20;times 2;", 0, 4, 0);
        dueSame("hide a from 3 to 3;times 2;", 1, NONE, NONE);
        dueSame("say;", 1, NONE, NONE);
        dueSame("by 0;", 0, 0, 0);
        dueSame("", 1, NONE, NONE);
        dueSame("hide a from 0 to 1;", 0, 1, 0);
        dueSame("hide a from 0 to 9999;hide b from 0 to 1;times 0;", 1, NONE, NONE);
        dueSame("hide a from 0 to 9999;hide b from 0 to 2;times 0;", SPENT, SPENT, SPENT);
        dueSame("hide a from 1 to 177;hide d from 1 to 113;times 0;", SPENT, SPENT, SPENT);
        dueSame("hide a from 0 to 9999;hide b from 0 to 9999;hide c from 0 to 9999;hide d from 0 to 9999;", SPENT, SPENT,
            SPENT);
        ThinkNumber x = new ThinkNumber();
        due("no such table", x.same(0), NONE);
        due("no such table", x.same(-1), NONE);
    }

    private static void dueSame(String text, int same, int a, int b) {
        ThinkNumber x = Due.with(text);
        x.think(5, 6, 7, 8);
        due("same of " + text, x.same(0), same);
        due("unlike a of " + text, x.unlike(0, 0), a);
        due("unlike b of " + text, x.unlike(0, 1), b);
        due("thought stays", x.about(10), 5);
    }

    private static void unlike() {
        promise = 15;
        ThinkNumber x = Due.with("hide b from 2 to 3;hide a from 4 to 6;hide d from 1 to 5;take b;turn;rest d;");
        due("first by a: a", x.unlike(0, 0), 4);
        due("first by a: b", x.unlike(0, 1), 2);
        due("c isn't hidden", x.unlike(0, 2), 0);
        due("d from the least on", x.unlike(0, 3), 3);
        due("no such letter", x.unlike(0, 4), NONE);
        due("no such letter", x.unlike(0, -1), NONE);
        due("no such table", x.unlike(1, 0), NONE);
        Due.table(x, "hide a from 2 to 4;hide b from 2 to 2;take b;by b;take a;turn;");
        due("it doesn't come to its end by the first", x.unlike(1, 0), 2);
        Due.table(x, "hide a from 2 to 4;rest 4;take 2;times 0;join 0;by a;take a;rest 1;");
        due("fails by the first of all", x.unlike(2, 0), 2);
        Due.table(x, "hide a from 0 to 3;hide c from 0 to 2;times 0;add c;by 2;times 0;add a;by 3;rest 1;");
        due("fails by a 1", x.unlike(3, 0), 1);
        due("and the least c", x.unlike(3, 2), 0);
    }

    private static void proof() {
        promise = 16;
        dueProof("hide a from 1 to 20;times 2;add 10;by 2;take a;say;", 0, 0, 0, 0, 5, 1);
        dueProof("hide a from 1 to 2;hide c from 1 to 2;add c;by 6;add 1;take c;", 1, 0, -5, 0, 6, 6);
        dueProof("hide b from 1 to 2;add 6;times b;by 4;", 0, 3, 0, 0, 0, 2);
        dueProof("hide b from 1 to 2;add 6;times b;by 4;take b;times 0;add 3;by 6;times b;", 0, 1, 0, 0, 0, 2);
        dueProof("hide d from 1 to 2;times d;add d;take d;times d;", 0, 0, 0, 0, 0, 1);
        dueProof("", 0, 0, 0, 0, 0, 1);
        dueProof("hide a from 0 to 0;", 1, 0, 0, 0, 0, 1);
        dueProof("hide a from 1 to 2;times 4;add 6;by 8;", 2, 0, 0, 0, 3, 4);
        dueProof("hide a from 1 to 2;by 1000;by 1000;", 1, 0, 0, 0, 0, 1000000);
        dueProof("take 1000;times 1000;times 1000;times 1000;", 0, 0, 0, 0, -1000000000000L, 1);
        dueProof("hide a from 1 to 2;times 1000;times 1000;times 1000;times 1000;", 1000000000000L, 0, 0, 0, 0, 1);
        dueProof("hide a from 1 to 2;by 6;times 0;", 0, 0, 0, 0, 0, 1);
        ThinkNumber x = Due.with("say;");
        due("others", x.proof(0, 6), NO_VALUE);
        due("others", x.proof(0, -1), NO_VALUE);
        due("no such table", x.proof(1, 0), NO_VALUE);
        due("no such table", x.proof(-1, 0), NO_VALUE);
    }

    private static void proofNone() {
        dueNoProof("turn;");
        dueNoProof("across;");
        dueNoProof("rest 5;");
        dueNoProof("join 5;");
        dueNoProof("strike 1;");
        dueNoProof("by 0;");
        dueNoProof("hide b from 1 to 2;by b;");
        dueNoProof("hide a from 1 to 2;times a;");
        dueNoProof("hide a from 1 to 2;hide b from 1 to 1;times b;");
        dueNoProof("hide a from 1 to 2;by 1000;by 1000;by 2;times 2;");
        dueNoProof("hide a from 0 to 0;times 1000;times 1000;times 1000;times 1001;times 0;");
        dueNoProof("take 1000;times 1000;times 1000;times 1000;take 1;");
    }

    private static void dueProof(String text, long... parts) {
        ThinkNumber x = Due.with(text);
        for (int what = 0; what < 6; what++) {
            due("proof " + what + " of " + text, x.proof(0, what), parts[what]);
        }
    }

    private static void dueNoProof(String text) {
        dueProof(text, NO_VALUE, NO_VALUE, NO_VALUE, NO_VALUE, NO_VALUE, NO_VALUE);
    }

    private static void hear() {
        promise = 17;
        ThinkNumber x = new ThinkNumber();
        due("up too big", x.hear(1000000001, 1), NONE);
        due("down too big", x.hear(1, 1000001), NONE);
        due("down below 0", x.hear(1, -1), NONE);
        for (int k = 1; k <= 6; k++) {
            due("hear", x.hear(-1000000000, 1000000), k);
        }
        due("there are 6", x.hear(1, 1), NONE);
        due("how many", x.about(5), 6);
        due("claims are others", x.about(4), 0);
        due("none any more", x.hear(DEEP, 0), 0);
        due("how many now", x.about(5), 0);
    }

    private static void fits() {
        promise = 18;
        ThinkNumber x = Due.with("hide a from 1 to 30;hide b from 1 to 3;rest 10;say;by b;say;rest 2;");
        due("nothing heard", x.fits(0, NONE, 0), 0);
        due("none fits", x.fits(0, 0, 0), NONE);
        due("none fits", x.fits(0, 0, 2), NONE);
        x.hear(12, 2);
        due("too little heard", x.fits(0, NONE, 0), 0);
        x.hear(3, 1);
        due("how many", x.fits(0, NONE, 99), 3);
        dueFits(x, 0, 6, 26, 3);
        dueFits(x, 1, 2, 2, 1);
        dueFits(x, 2, 0, 0, 1);
        due("others", x.fits(0, 0, 3), NONE);
        due("others", x.fits(0, 0, -1), NONE);
        due("others", x.fits(0, 4, 0), NONE);
        due("others", x.fits(0, -2, 0), NONE);
        due("no such table", x.fits(1, NONE, 0), NONE);
        x.hear(0, 1);
        due("too much heard", x.fits(0, NONE, 0), 0);
        x.hear(0, 0);
        x.hear(5, 1);
        x.hear(5, 2);
        due("the row must come to its end", x.fits(0, NONE, 0), 0);
        x.hear(0, 0);
        Due.table(x, "hide a from 0 to 9999;hide b from 0 to 1;");
        due("all of 20000", x.fits(1, NONE, 0), 20000);
        dueFitsOf(x, 1, 0, 0, 9999, 10000);
        dueFitsOf(x, 1, 1, 0, 1, 2);
        Due.table(x, "hide a from 0 to 9999;hide b from 0 to 2;");
        due("too many", x.fits(2, NONE, 0), SPENT);
        due("too many", x.fits(2, 3, 2), SPENT);
        Due.table(x, "hide b from 0 to 1;hide a from 1 to 2;say;");
        x.hear(1, 1);
        due("by a alone", x.fits(3, NONE, 0), 2);
    }

    private static void dueFits(ThinkNumber x, int letter, int least, int greatest, int unlike) {
        dueFitsOf(x, 0, letter, least, greatest, unlike);
    }

    private static void dueFitsOf(ThinkNumber x, int table, int letter, int least, int greatest, int unlike) {
        due("least of " + letter, x.fits(table, letter, 0), least);
        due("greatest of " + letter, x.fits(table, letter, 1), greatest);
        due("unlike of " + letter, x.fits(table, letter, 2), unlike);
    }

    private static void more() {
        promise = 19;
        dueMore("hide a from 0 to 99;rest 10;say;", NONE);
        dueMore("hide a from 0 to 99;hide b from 0 to 4;rest 10;say;times 0;add a;take b;times 10;join b;add a;", 4);
        dueMore("hide a from 10 to 99;across;say;times 0;add a;turn;", 3);
        dueMore("hide a from 0 to 24;hide b from 0 to 9;rest 5;times 10;add b;say;times 0;add a;by 5;", 5);
        dueMore("hide a from 7 to 7;times 0;", 0);
        dueMore("hide a from 7 to 7;", NONE);
        dueMore("hide a from 0 to 9;times 0;by a;", NONE);
        dueMore("hide a from 0 to 1;times 0;add 1;by a;", 0);
        dueMore("hide a from 0 to 9;by 0;", 0);
        dueMore("hide a from 1 to 500;rest 500;", 0);
        dueMore("hide a from 0 to 500;", SPENT);
        dueMore("hide a from 0 to 9;hide b from 0 to 9;hide c from 0 to 9;say;", SPENT);
        dueMore("hide a from 0 to 9;say;times 0;say;", 0);
        dueMore("hide a from 0 to 9;times 0;say;say;add a;", 3);
        ThinkNumber x = new ThinkNumber();
        due("no such table", x.more(0), NONE);
        due("no such table", x.more(-1), NONE);
    }

    private static void dueMore(String text, int want) {
        ThinkNumber x = Due.with(text);
        due("more of " + text, x.more(0), want);
        due("asked again, of " + text, x.more(0), want);
    }

    private static void kit() {
        promise = 20;
        ThinkNumber x = new ThinkNumber();
        due("others", x.kit(8, 1), NONE);
        due("others", x.kit(-2, 1), NONE);
        due("others", x.kit(0, 10000), NONE);
        due("others", x.kit(5, -2), NONE);
        due("of 6 x isn't asked", x.kit(6, FAR), 1);
        due("of 7 x isn't asked", x.kit(7, DEEP), 2);
        due("greatest", x.kit(0, 9999), 3);
        due("letter a", x.kit(5, NONE), 4);
        due("by 0", x.kit(3, 0), 5);
        due("rest", x.kit(4, 7), 6);
        due("there are 6", x.kit(0, 1), NONE);
        due("how many", x.about(6), 6);
        due("none any more", x.kit(NONE, 5), 0);
        due("how many now", x.about(6), 0);
    }

    private static void made() {
        promise = 21;
        ThinkNumber x = new ThinkNumber();
        due("none at all", x.made(9, 9, 9, 1, NONE), 0);
        due("there is none such", x.made(9, 9, 9, 1, 0), -2);
        due("an empty kit", x.made(9, 9, 8, 5, NONE), -2);
        x.kit(1, NONE);
        x.kit(0, 1);
        x.kit(2, 3);
        x.kit(3, 2);
        x.kit(7, 0);
        x.kit(4, 9);
        dueMade(x, 0, 99, 0, 5, 0);
        dueMade(x, 0, 99, 2, 5, 0, 1, 1);
        dueMade(x, 7, 7, 12, 5, 1, 2, 3);
        dueMade(x, 7, 7, 11, 5, 2, 1, 3);
        dueMade(x, 10, 10, 5, 5, 3);
        dueMade(x, 3, 3, 9, 5, 2);
        due("not with fewer", x.made(7, 7, 12, 2, NONE), -2);
        dueMade(x, 0, 99, 5, 5, 0, 1, 2, 1, 1);
        due("101 numbers", x.made(0, 100, 0, 5, NONE), -2);
        due("100 numbers", x.made(9900, 9999, 0, 5, NONE), 1);
        due("low below 0", x.made(-1, 5, 0, 5, NONE), -2);
        due("high too big", x.made(9990, 10000, 0, 5, NONE), -2);
        due("low above high", x.made(6, 5, 0, 5, NONE), -2);
        due("end below 0", x.made(1, 5, -1, 5, NONE), -2);
        due("end too big", x.made(1, 5, 10000, 5, NONE), -2);
        due("end deep", x.made(9, 9, DEEP, 3, NONE), -2);
        due("n 0", x.made(1, 5, 0, 0, NONE), -2);
        due("n below 0, none needed", x.made(5, 5, 5, -1, NONE), -2);
        due("n 6", x.made(1, 5, 0, 6, NONE), -2);
        due("i below NONE", x.made(1, 5, 0, 5, -2), -2);
        due("i far", x.made(1, 5, 0, 5, FAR), -2);
        due("deep and far", x.made(DEEP, FAR, 0, 5, NONE), -2);
        x.kit(NONE, 0);
        x.kit(1, 5);
        x.kit(0, 8);
        dueMade(x, 4, 4, 4, 5);
        dueMade(x, 4, 5, 4, 5);
        dueMade(x, 4, 4, 7, 5, 1, 0);
        dueMade(x, 5, 5, 8, 5, 0, 1);
        x.kit(NONE, 0);
        x.kit(3, 2);
        x.kit(2, 6);
        dueMade(x, 5, 5, 15, 5, 1, 0);
        dueMade(x, 4, 4, 12, 5, 0, 1);
    }

    private static void dueMade(ThinkNumber x, int low, int high, int end, int n, int... orders) {
        boolean some = orders.length > 0 || (low == high && low == end);
        due("made " + low + " " + high + " " + end, x.made(low, high, end, n, NONE), some ? orders.length : -2);
        for (int i = 0; i < orders.length; i++) {
            due("made " + low + " " + high + " " + end + " at " + i, x.made(low, high, end, n, i), orders[i]);
        }
        due("behind the last", x.made(low, high, end, n, orders.length), -2);
    }

    private static void slip() {
        promise = 22;
        ThinkNumber x = Due.with("hide a from 1 to 9;add 6;by 3;say;strike 1;");
        x.think(3, 0, 0, 0);
        dueSlips(x, 3, 1, 9);
        dueSlips(x, 0, 1, 0, 1, 3, 4, 6, 7, 10);
        dueSlips(x, 21, 3, 5);
        x.think(30, 0, 0, 0);
        dueSlips(x, 2, 1, 6, 7);
        dueSlips(x, 0, 5, 0, 2, 4, 10);
        dueSlips(x, 8, 1, 5);
        dueSlips(x, 12, 1, 9);
        dueSlips(x, 1, 2);
        Due.table(x, "hide b from 0 to 9;add 6;times b;");
        x.think(0, 2, 0, 0);
        due("left out", x.slip(1, 0, 1, 0), 0);
        due("twice", x.slip(1, 24, 1, 0), 1);
        due("twice", x.slip(1, 24, 1, 1), 4);
        due("turned round", x.slip(1, -12, 1, 0), 2);
        due("left out", x.slip(1, 6, 1, 0), 3);
        due("turned round", x.slip(1, 9, 3, 0), 5);
        due("how many", x.slip(1, 24, 1, NONE), 2);
        due("none", x.slip(1, 12, 1, NONE), 0);
        due("none such", x.slip(1, 12, 1, 0), NONE);
        due("none such", x.slip(1, 24, 1, 2), NONE);
        due("i below NONE", x.slip(1, 24, 1, -2), NONE);
        due("down 0", x.slip(1, 24, 0, NONE), NONE);
        due("down below 0", x.slip(1, 24, -1, NONE), NONE);
        due("down too big", x.slip(1, 24, 1000001, NONE), NONE);
        due("up too big", x.slip(1, 1000000001, 1, NONE), NONE);
        due("up too small", x.slip(1, -1000000001, 1, NONE), NONE);
        due("no such table", x.slip(2, 24, 1, NONE), NONE);
        due("no such table", x.slip(-1, 24, 1, NONE), NONE);
        x.think(0, 0, 0, 0);
        due("by 0 can't be", x.slip(1, 0, 1, NONE), 4);
        Due.table(x, "");
        due("no orders", x.slip(2, 0, 1, NONE), 0);
        Due.table(x, "take 5;turn;");
        due("a row that fails may come to its end", x.slip(3, 5, 1, 0), 2);
        due("or with its failing order left out", x.slip(3, -5, 1, 0), 3);
    }

    private static void dueSlips(ThinkNumber x, int up, int down, int... numbers) {
        String what = " to " + up + "/" + down;
        due("slips" + what, x.slip(0, up, down, NONE), numbers.length);
        for (int i = 0; i < numbers.length; i++) {
            due("slip " + i + what, x.slip(0, up, down, i), numbers[i]);
        }
        due("behind the last" + what, x.slip(0, up, down, numbers.length), NONE);
    }

    private static void ask() {
        promise = 23;
        ThinkNumber x = new ThinkNumber();
        due("one", x.ask(1), NONE);
        due("31", x.ask(31), NONE);
        due("below 0", x.ask(-2), NONE);
        due("far", x.ask(FAR), NONE);
        for (int k = 1; k <= 6; k++) {
            due("ask", x.ask(k % 2 == 0 ? 2 : 30), k);
        }
        due("there are 6", x.ask(2), NONE);
        due("how many", x.about(7), 6);
        due("none any more", x.ask(0), 0);
        due("how many now", x.about(7), 0);
    }

    private static void known() {
        promise = 24;
        dueKnown(1, 0, NONE);
        dueKnown(2, NONE, NONE);
        dueKnown(6, 2, 0, 2, 3);
        dueKnown(7, NONE, NONE, 2, 3);
        dueKnown(24, 1, 2, 2, 3, 24);
        dueKnown(24, 3, 0, 2, 3, 5);
        dueKnown(24, 2, 0, 12, 2, 3, 4, 6, 9);
        dueKnown(24, 1, 1, 23, 30, 29);
        dueKnown(24, 2, 0, 23, 2, 3, 4);
        dueKnown(4, 1, 1, 2, 4);
        dueKnown(24, 2, 1, 2, 3, 8);
        dueKnown(24, NONE, NONE, 2, 4, 6, 12);
        dueKnown(12, 2, 1, 2, 3, 4);
        dueKnown(3, 1, 1, 2, 3, 3);
        dueKnown(5, 2, 0, 2, 3, 3);
        ThinkNumber x = new ThinkNumber();
        x.ask(30);
        due("n 0", x.known(0, false), NONE);
        due("n 25", x.known(25, false), NONE);
        due("n deep", x.known(DEEP, true), NONE);
        due("n far", x.known(FAR, true), NONE);
    }

    private static void dueKnown(int n, int fewest, int first, int... asks) {
        ThinkNumber x = new ThinkNumber();
        for (int m : asks) {
            x.ask(m);
        }
        String what = n + " by " + java.util.Arrays.toString(asks);
        due("asks for " + what, x.known(n, false), fewest);
        due("first for " + what, x.known(n, true), first);
    }

    private static int restBySteps(String figures, int m) {
        return new java.math.BigInteger(figures).mod(java.math.BigInteger.valueOf(m)).intValue();
    }

    private static void rest() {
        promise = 25;
        ThinkNumber x = new ThinkNumber();
        due("none on the tape", x.rest(9), NONE);
        String longest = "9876543210".repeat(30);
        for (int m : new int[] {1, 2, 7, 9, 11, 97, 9998, 9999}) {
            Due.lay(x, longest);
            due("by " + m, x.rest(m), restBySteps(longest, m));
        }
        due("the tape stays", x.about(8), 300);
        due("by 0", x.rest(0), NONE);
        due("by 10000", x.rest(10000), NONE);
        due("by far", x.rest(FAR), NONE);
        due("by deep", x.rest(DEEP), NONE);
        Due.lay(x, "007");
        due("figures 0 ahead", x.rest(5), 2);
        Due.lay(x, "12 3");
        due("a blank", x.rest(5), NONE);
        Due.lay(x, "-12");
        due("a sign", x.rest(5), NONE);
        Due.lay(x, "12" + (char) 0);
        due("a byte 0", x.rest(5), NONE);
        Due.lay(x, "1" + (char) 0xb1);
        due("a high byte", x.rest(5), NONE);
        Due.lay(x, "1?");
        due("a ?", x.rest(5), NONE);
    }

    private static void struck() {
        promise = 26;
        ThinkNumber x = new ThinkNumber();
        due("none on the tape", x.struck(9), NONE);
        dueStruck(x, "12?4", 9, 1 << 2);
        dueStruck(x, "9?", 9, 1 | 1 << 9);
        dueStruck(x, "?", 1, 1023);
        dueStruck(x, "?", 3, 1 | 1 << 3 | 1 << 6 | 1 << 9);
        dueStruck(x, "?5", 2, 0);
        dueStruck(x, "1?", 9999, 0);
        dueStruck(x, "0?", 9999, 1);
        dueStruck(x, "12", 9, NONE);
        dueStruck(x, "1??", 9, NONE);
        dueStruck(x, "1? ", 9, NONE);
        dueStruck(x, "1?", 0, NONE);
        dueStruck(x, "1?", 10000, NONE);
        dueStruck(x, "1?", DEEP, NONE);
        String ahead = "7".repeat(150);
        String behind = "4".repeat(149);
        int bits = 0;
        for (int d = 0; d < 10; d++) {
            bits |= restBySteps(ahead + d + behind, 7) == 0 ? 1 << d : 0;
        }
        dueStruck(x, ahead + "?" + behind, 7, bits);
        due("the tape stays", x.about(8), 300);
    }

    private static void dueStruck(ThinkNumber x, String figures, int m, int bits) {
        Due.lay(x, figures);
        due("struck of " + figures + " by " + m, x.struck(m), bits);
    }

    private static void play() {
        promise = 27;
        ThinkNumber x = Due.with("hide a from 1 to 9;hide b from 1 to 9;add b;by b;");
        due("no such table", x.play(1), NONE);
        due("no such table", x.play(-1), NONE);
        due("nothing is played", x.about(1), NONE);
        x.think(7, 2, 0, 0);
        due("how many orders", x.play(0), 2);
        due("at first", x.value(false), 7);
        x.go();
        due("wrong table", x.play(3), NONE);
        due("played stays", x.about(2), 1);
        due("played anew", x.play(0), 2);
        due("steps are forgotten", x.about(3), 0);
        due("none can be taken back", x.undo(), NONE);
        x.think(8, 5, 0, 0);
        due("it began with what was thought then", x.value(false), 7);
        x.play(0);
        x.go();
        due("anew, by what is thought now", x.value(false), 13);
    }

    private static void go() {
        promise = 28;
        ThinkNumber x = Due.with("add 7;by 2;turn;say;");
        due("without a row", x.go(), NONE);
        x.play(0);
        due("first", x.go(), 0);
        due("second", x.go(), 1);
        due("it can't be", x.go(), NONE);
        due("the value stays", x.value(false), 7);
        due("and its lower", x.value(true), 2);
        due("orders played", x.about(2), 2);
        goByWhatIsThought();
        Due.table(x, "say;");
        x.play(1);
        due("the only one", x.go(), 0);
        due("there is none", x.go(), NONE);
        Due.table(x, "");
        due("no orders", x.play(2), 0);
        due("none", x.go(), NONE);
    }

    /** Between two orders something else may be thought: the next one takes that. */
    private static void goByWhatIsThought() {
        ThinkNumber x = Due.with("hide a from 1 to 9;hide b from 0 to 9;add b;by b;add a;");
        x.think(7, 2, 0, 0);
        x.play(0);
        x.think(8, 5, 0, 0);
        due("go", x.go(), 0);
        due("the first value stays, the letter is the new one", x.value(false), 12);
        x.think(8, 0, 0, 0);
        due("the value stays", x.value(false), 12);
        due("by 0 can't be", x.go(), NONE);
        x.think(8, 4, 0, 0);
        due("now it can", x.go(), 1);
        due("by 4", x.value(false), 3);
        x.image();
        due("a too", x.go(), 2);
        due("by 8", x.value(false), 11);
        due("undo", x.undo(), 2);
        x.think(1, 1, 0, 0);
        due("undo", x.undo(), 1);
        due("as it was behind its step", x.value(false), 12);
        due("again", x.go(), 1);
        due("by what is thought now", x.value(false), 12);
        due("back", x.back(), 2);
        due("the value of the image", x.value(false), 3);
        due("go on", x.go(), 2);
        due("by what was thought in the image", x.value(false), 11);
        due("undo", x.undo(), 2);
        due("undo", x.undo(), 1);
        due("undo", x.undo(), 0);
        due("that at first", x.value(false), 7);
    }

    private static void undo() {
        promise = 29;
        ThinkNumber x = Due.with("add 1;".repeat(24));
        due("none", x.undo(), NONE);
        x.play(0);
        due("none yet", x.undo(), NONE);
        for (int i = 0; i < 24; i++) {
            due("go", x.go(), i);
        }
        due("steps", x.about(3), 24);
        for (int left = 23; left >= 0; left--) {
            due("undo", x.undo(), left);
            due("value", x.value(false), left);
        }
        due("none any more", x.undo(), NONE);
        for (int i = 0; i < 40; i++) {
            due("go and undo", x.go(), 0);
            due("go and undo", x.undo(), 0);
        }
    }

    private static void value() {
        promise = 30;
        ThinkNumber x = Due.with("add 5;by 10;times 4;");
        due("without a row", x.value(false), 0);
        due("without a row", x.value(true), 1);
        x.play(0);
        due("at first", x.value(false), 0);
        x.go();
        x.go();
        due("upper", x.value(false), 1);
        due("lower", x.value(true), 2);
        x.go();
        due("upper", x.value(false), 2);
        due("lower", x.value(true), 1);
        x.undo();
        due("lower of the one taken back", x.value(true), 2);
    }

    private static void image() {
        promise = 31;
        ThinkNumber x = Due.with("add 5;add 5;");
        due("nothing played", x.image(), 0);
        x.play(0);
        x.go();
        x.go();
        due("two", x.image(), 2);
        due("it goes on", x.undo(), 1);
        due("the newer image", x.back(), 2);
        x.undo();
        x.undo();
        x.image();
        due("the newest image", x.back(), 0);
    }

    private static void back() {
        promise = 32;
        ThinkNumber x = Due.with("hide a from 1 to 9;add a;add a;");
        x.think(3, 4, 5, 6);
        x.claim(6, 1);
        x.hear(7, 2);
        x.kit(0, 4);
        x.ask(3);
        x.play(0);
        x.go();
        x.image();
        x.think(9, 9, 9, 9);
        Due.table(x, "times 0;say;");
        x.claim(0, 0);
        x.claim(1, 1);
        x.claim(2, 1);
        x.hear(0, 0);
        x.kit(NONE, 0);
        x.kit(0, 5);
        x.ask(0);
        x.ask(2);
        x.play(1);
        Due.lay(x, "123");
        for (int again = 0; again < 2; again++) {
            due("orders played", x.back(), 1);
            due("tables", x.about(0), 1);
            due("the later table is gone", x.order(1, NONE, false), NONE);
            due("thought", x.about(10), 3);
            due("thought", x.about(13), 6);
            due("claims", x.about(4), 1);
            due("the claim", x.judge(0), NONE);
            due("heard", x.about(5), 1);
            due("kit", x.made(1, 1, 5, 1, 0), 0);
            due("ask", x.known(3, false), 1);
            due("the table played", x.about(1), 0);
            due("its value", x.value(false), 6);
            due("a step can be taken back", x.about(3), 1);
            due("the tape isn't in it", x.about(8), 3);
            due("nor its bytes", x.rest(9999), 123);
            due("go on", x.go(), 1);
            due("by what was thought", x.value(false), 9);
        }
        due("a new table there", Due.table(x, "hide b from 4 to 5;turn;"), 1);
        due("is its own", x.order(1, 0, false), 6);
        due("with its own spans", x.span(1, 0, false), NONE);
    }

    private static void about() {
        promise = 33;
        ThinkNumber x = Due.with("say;say;");
        Due.table(x, "turn;turn;");
        x.think(5, 6, 7, 8);
        x.claim(1, 1);
        for (int k = 0; k < 2; k++) {
            x.hear(1, 1);
        }
        for (int k = 0; k < 3; k++) {
            x.kit(0, 1);
        }
        for (int k = 0; k < 4; k++) {
            x.ask(2);
        }
        x.play(1);
        x.go();
        x.go();
        x.undo();
        x.feed(0, 0, 0, 0, 0);
        int[] wanted = {2, 1, 1, 1, 1, 2, 3, 4, 20, -2, 5, 6, 7, 8, -2};
        for (int what = 0; what < wanted.length; what++) {
            due("about " + what, x.about(what), wanted[what]);
        }
        due("others", x.about(-1), -2);
        due("others", x.about(DEEP), -2);
        due("others", x.about(FAR), -2);
    }
}
