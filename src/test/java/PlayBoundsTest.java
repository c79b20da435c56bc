/** Boundary cases of Terms IV (PLAYED, STEPS, THE IMAGE) and of promises 1 and 27 to 33. */
public final class PlayBoundsTest {
    private static final int NONE = Bounds.NONE;
    private static final int FAR = Bounds.FAR;
    private static final int DEEP = Bounds.DEEP;

    public static void main(String[] args) {
        newObject();
        imageOfANewObject();
        playATable();
        playForOthers();
        stepsForgotten();
        goToTheLast();
        goCantBe();
        goWithoutARow();
        goByWhatIsThought();
        undoToTheFirst();
        undoLatestFirst();
        undoAndGoOn();
        valueWithoutARow();
        valuesPlayed();
        imageOfAll();
        imageButTheTape();
        imageStays();
        imageTakenAnew();
        tablesBehindTheImage();
        imageOfFullLists();
        aboutEach();
        aboutForOthers();
        constants();
        calls512();
        Due.finish("PlayBoundsTest");
    }

    private static void sentence(String where, String words) {
        Bounds.sentence(where, words);
    }

    private static void due(String what, long got, long want) {
        Bounds.due(what, got, want);
    }

    private static void dueValue(ThinkNumber x, long up, long low) {
        due("upper", x.value(false), up);
        due("lower", x.value(true), low);
    }

    private static void dueNew(String what, ThinkNumber x) {
        int[] answers = {0, NONE, 0, 0, 0, 0, 0, 0};
        for (int about = 0; about < answers.length; about++) {
            due(what + ", about " + about, x.about(about), answers[about]);
        }
        for (int letter = 0; letter < 4; letter++) {
            due(what + ", thought of " + letter, x.about(10 + letter), 0);
        }
        dueValue(x, 0, 1);
    }

    private static void newObject() {
        sentence("Promise 1", "No TABLES, nothing PLAYED");
        dueNew("a new object", new ThinkNumber());
        due("an empty tape", new ThinkNumber().about(8), 0);
        ThinkNumber used = new ThinkNumber();
        Bounds.fill(used);
        dueNew("a new one beside a full one", new ThinkNumber());
    }

    private static void imageOfANewObject() {
        sentence("Promise 1", "THE IMAGE is this.");
        ThinkNumber x = new ThinkNumber();
        due("at once", x.back(), 0);
        dueNew("at once", x);
        Due.table(x, "hide a from 1 to 9;add 1;");
        x.think(5, 6, 7, 8);
        x.claim(6, 1);
        x.hear(6, 1);
        x.kit(0, 1);
        x.ask(2);
        x.play(0);
        x.go();
        due("behind some calls", x.back(), 0);
        dueNew("behind some calls", x);
        due("go", x.go(), NONE);
        due("undo", x.undo(), NONE);
        due("no table", x.order(0, NONE, false), NONE);
    }

    private static void playATable() {
        sentence("Promise 27", "A ROW of a TABLE is PLAYED ..: how many ORDERS it has.");
        ThinkNumber x = Due.with("");
        Due.table(x, "add 1;");
        Due.table(x, "add 1;".repeat(24));
        Due.table(x, "hide a from 1 to 2;by 0;");
        int[] orders = {0, 1, 24, 1};
        for (int table = 0; table < 4; table++) {
            due("table " + table, x.play(table), orders[table]);
            due("it is played", x.about(1), table);
            due("none of its orders yet", x.about(2), 0);
            due("no steps", x.about(3), 0);
        }
    }

    private static void playForOthers() {
        sentence("Promise 27", "NONE for others (play)");
        for (int table : new int[] {-2, -1, 4, 5, FAR, DEEP}) {
            Bounds.refused("table " + table, NONE, x -> x.play(table));
        }
        Bounds.refusedBy(Bounds::use, "the table behind the last", NONE, x -> x.play(3));
        Bounds.refusedBy(x -> { }, "no table", NONE, x -> x.play(0));
        Bounds.refusedBy(x -> {
            Bounds.use(x);
            x.back();
        }, "a table that is gone", NONE, x -> x.play(1));
        due("the last table", usedObject().play(2), 3);
    }

    private static ThinkNumber usedObject() {
        ThinkNumber x = new ThinkNumber();
        Bounds.use(x);
        return x;
    }

    private static void stepsForgotten() {
        sentence("Promise 27", "(STEPS are forgotten)");
        ThinkNumber x = Due.with("add 1;".repeat(24));
        for (int steps : new int[] {0, 1, 23, 24}) {
            x.play(0);
            for (int k = 0; k < steps; k++) {
                x.go();
            }
            due("steps", x.about(3), steps);
            x.play(0);
            due("none behind " + steps, x.about(3), 0);
            due("none can be taken back", x.undo(), NONE);
            due("the first order is next", x.go(), 0);
        }
    }

    private static void goToTheLast() {
        sentence("Promise 28", "The next ORDER: its number. NONE: there is none");
        ThinkNumber x = Due.with("add 1;".repeat(24));
        x.play(0);
        for (int i = 0; i < 24; i++) {
            due("order", x.go(), i);
            due("orders played", x.about(2), i + 1);
        }
        due("behind the last", x.go(), NONE);
        due("again", x.go(), NONE);
        dueValue(x, 24, 1);
        Bounds.refusedBy(y -> {
            Due.table(y, "add 1;");
            y.play(0);
            y.go();
        }, "behind the only one", NONE, ThinkNumber::go);
        Bounds.refusedBy(y -> {
            Due.table(y, "");
            y.play(0);
        }, "of no orders", NONE, ThinkNumber::go);
        Bounds.refusedBy(y -> {
            Bounds.fill(y);
            y.go();
            y.go();
        }, "a full object", NONE, ThinkNumber::go);
    }

    private static void goCantBe() {
        sentence("Promise 28", "it CAN'T be (go)");
        String[] texts = {"by 0;", "add 1;by 0;add 1;", "take 1;turn;", "add 1;by 2;rest 1;", "strike 2;",
            "add 1000;times 1000;times 1000;times 1000;add 1;", "add 1;by 1000;by 1000;by 2;", "rest 0;"};
        for (String text : texts) {
            Bounds.refusedBy(x -> {
                Due.table(x, text);
                x.play(0);
                for (int k = x.fails(0); k > 0; k--) {
                    x.go();
                }
            }, text, NONE, ThinkNumber::go);
        }
        ThinkNumber x = Due.with("add 1000;times 1000;times 1000;times 1000;add 1;");
        x.play(0);
        for (int i = 0; i < 4; i++) {
            due("order", x.go(), i);
        }
        due("the greatest and 1", x.go(), NONE);
        dueValue(x, 1000000000000L, 1);
        due("orders played", x.about(2), 4);
        due("the latest step is the last that could be", x.undo(), 3);
        due("again", x.go(), 3);
    }

    private static void goWithoutARow() {
        sentence("Promise 28", "and without a ROW (go)");
        Bounds.refusedBy(x -> { }, "a new object", NONE, ThinkNumber::go);
        Bounds.refusedBy(x -> Due.table(x, "add 1;"), "a table that isn't played", NONE, ThinkNumber::go);
        Bounds.refusedBy(x -> {
            Due.table(x, "add 1;");
            x.play(1);
        }, "play was refused", NONE, ThinkNumber::go);
        Bounds.refusedBy(x -> {
            Due.table(x, "add 1;");
            x.play(0);
            x.back();
            Due.table(x, "add 1;");
        }, "back to where none was played", NONE, ThinkNumber::go);
    }

    private static void goByWhatIsThought() {
        sentence("Terms I", "X: a NUMBER, or what was THOUGHT of a LETTER. (go)");
        ThinkNumber x = Due.with("hide a from 1 to 2;hide d from 1 to 2;add d;by d;");
        x.think(9999, 0, 0, 0);
        x.play(0);
        dueValue(x, 9999, 1);
        x.think(0, 0, 0, 9999);
        dueValue(x, 9999, 1);
        due("add", x.go(), 0);
        dueValue(x, 19998, 1);
        x.think(0, 0, 0, 0);
        due("by 0", x.go(), NONE);
        x.think(0, 0, 0, 10000);
        due("what is refused isn't thought", x.go(), NONE);
        x.think(0, 0, 0, 1);
        due("by 1", x.go(), 1);
        dueValue(x, 19998, 1);
    }

    private static void undoToTheFirst() {
        sentence("Promise 29", "The latest STEP is taken back: how many can be yet. NONE: there is none.");
        Bounds.refusedBy(x -> { }, "without a row", NONE, ThinkNumber::undo);
        Bounds.refusedBy(x -> {
            Due.table(x, "add 1;");
            x.play(0);
        }, "no step yet", NONE, ThinkNumber::undo);
        Bounds.refusedBy(x -> {
            Due.table(x, "add 1;");
            x.play(0);
            x.go();
            x.undo();
        }, "no step any more", NONE, ThinkNumber::undo);
        Bounds.refusedBy(x -> {
            Due.table(x, "by 0;");
            x.play(0);
            x.go();
        }, "the only order couldn't be", NONE, ThinkNumber::undo);
        Bounds.refusedBy(x -> {
            Bounds.use(x);
            x.play(1);
        }, "steps were forgotten", NONE, ThinkNumber::undo);
    }

    private static void undoLatestFirst() {
        sentence("Terms IV", "ORDER by ORDER (a STEP each; the latest 30 can be taken back, the latest first)");
        ThinkNumber x = Due.with("add 1;by 2;".repeat(12));
        x.play(0);
        long[] ups = new long[25];
        long[] lows = new long[25];
        for (int i = 0; i < 25; i++) {
            ups[i] = x.value(false);
            lows[i] = x.value(true);
            due("go", x.go(), i < 24 ? i : NONE);
            due("steps", x.about(3), Math.min(i + 1, 24));
        }
        for (int left = 23; left >= 0; left--) {
            due("undo", x.undo(), left);
            due("steps", x.about(3), left);
            due("orders played", x.about(2), left);
            dueValue(x, ups[left], lows[left]);
        }
        due("none any more", x.undo(), NONE);
        due("it is played yet", x.about(1), 0);
    }

    private static void undoAndGoOn() {
        sentence("Terms IV", "the latest 30 can be taken back (more than 30 goes, taken back between)");
        ThinkNumber x = Due.with("add 1;".repeat(24));
        x.play(0);
        for (int k = 0; k < 22; k++) {
            x.go();
        }
        for (int k = 0; k < 33; k++) {
            due("go", x.go(), 22);
            due("go", x.go(), 23);
            due("undo", x.undo(), 23);
            due("undo", x.undo(), 22);
        }
        x.go();
        for (int left = 22; left >= 0; left--) {
            due("all can be taken back", x.undo(), left);
        }
        dueValue(x, 0, 1);
    }

    private static void valueWithoutARow() {
        sentence("Promise 30", "(0 by 1 without a ROW)");
        ThinkNumber x = new ThinkNumber();
        dueValue(x, 0, 1);
        Due.table(x, "hide a from 1 to 2;add 5;by 2;");
        x.think(7, 0, 0, 0);
        dueValue(x, 0, 1);
        x.comes(0, 1, false);
        dueValue(x, 0, 1);
        x.play(1);
        dueValue(x, 0, 1);
        x.play(0);
        dueValue(x, 7, 1);
        x.go();
        x.go();
        dueValue(x, 6, 1);
        x.back();
        dueValue(x, 0, 1);
    }

    private static void valuesPlayed() {
        sentence("Promise 30", "The VALUE that was PLAYED: its upper (low false), its lower number");
        ThinkNumber x = Due.with("hide a from 1 to 2;take 5;by 1000;by 1000;times 0;");
        x.play(0);
        dueValue(x, 0, 1);
        x.think(6, 0, 0, 0);
        x.play(0);
        dueValue(x, 6, 1);
        x.go();
        dueValue(x, 1, 1);
        x.go();
        x.go();
        dueValue(x, 1, 1000000);
        x.go();
        dueValue(x, 0, 1);
        x.undo();
        dueValue(x, 1, 1000000);
        Due.table(x, "take 1000;times 1000;times 1000;times 1000;");
        x.play(1);
        for (int k = 0; k < 4; k++) {
            x.go();
        }
        dueValue(x, -1000000000000L, 1);
    }

    private static void imageOfAll() {
        sentence("Promise 31", "THE IMAGE is as all is now: how many ORDERS were PLAYED.");
        ThinkNumber x = Due.with("add 1;".repeat(24));
        due("nothing played", x.image(), 0);
        x.play(0);
        due("none of its orders", x.image(), 0);
        for (int k = 1; k <= 24; k++) {
            x.go();
            due("behind " + k, x.image(), k);
        }
        x.undo();
        due("back to 24", x.back(), 24);
        due("all steps can be taken back", x.undo(), 23);
        dueValue(x, 23, 1);
        Bounds.refusedBy(y -> {
            Bounds.use(y);
            y.image();
        }, "an image like all is", 2, ThinkNumber::image);
        Bounds.refusedBy(y -> {
            Bounds.fill(y);
            y.image();
        }, "back to all as it is", 4, ThinkNumber::back);
    }

    private static void imageButTheTape() {
        sentence("Terms IV", "AN IMAGE: all as it is, but the tape and the latest FAULT. BACK: all is so again.");
        ThinkNumber x = new ThinkNumber();
        Due.table(x, "add 10000;");
        Due.lay(x, "123");
        x.image();
        Due.table(x, "say;".repeat(25));
        Due.lay(x, "4567");
        x.back();
        due("bytes of the tape", x.about(8), 4);
        due("they stay", x.rest(9999), 4567);
        due("the latest fault stays", x.fault(0), 6);
        due("its place", x.fault(1), 96);
        x.end(0);
        x.back();
        due("an empty tape stays", x.about(8), 0);
        Due.table(x, "say;");
        x.back();
        due("no fault stays", x.fault(0), 0);
        due("its table is gone", x.about(0), 0);
    }

    private static void imageStays() {
        sentence("Promise 32", "BACK to THE IMAGE (it stays): how many ORDERS were PLAYED.");
        ThinkNumber x = usedObject();
        for (int again = 0; again < 3; again++) {
            due("one", x.back(), 1);
            due("tables", x.about(0), 1);
            due("thought of a", x.about(10), 3);
            due("thought of d", x.about(13), 9);
            due("the table played", x.about(1), 0);
            dueValue(x, 6, 1);
            due("claims", x.about(4), 1);
            due("the claim", x.judge(0), NONE);
            due("heard", x.fits(0, 0, 0), 3);
            due("the kit", x.made(0, 0, 5, 1, 0), 0);
            due("the asks", x.known(5, false), 1);
            due("go", x.go(), 1);
            dueValue(x, 16, 1);
            x.think(1, 1, 1, 1);
            x.claim(0, 0);
            x.claim(1, 2);
            x.hear(0, 0);
            x.hear(1, 2);
            x.kit(NONE, 0);
            x.kit(0, 6);
            x.ask(0);
            x.ask(2);
            Due.table(x, "say;");
            x.play(1);
        }
    }

    private static void imageTakenAnew() {
        sentence("Promise 31", "THE IMAGE is as all is now (the latest alone)");
        ThinkNumber x = new ThinkNumber();
        for (int k = 1; k <= 5; k++) {
            x.think(k, k, k, k);
            x.image();
        }
        x.think(9, 9, 9, 9);
        x.back();
        due("the latest", x.about(10), 5);
        x.back();
        due("no earlier one", x.about(10), 5);
    }

    private static void tablesBehindTheImage() {
        sentence("Terms IV", "BACK: all is so again. (TABLES)");
        ThinkNumber x = Due.with("add 1;");
        x.image();
        for (int again = 0; again < 3; again++) {
            for (int k = 1; k <= 3; k++) {
                due("table", Due.table(x, "hide b from " + again + " to 9;add " + (10 * again + k) + ";"), k);
            }
            due("no fifth", Due.table(x, "say;"), NONE);
            due("its own order", x.order(3, 0, true), 10 * again + 3);
            due("its own span", x.span(3, 1, false), again);
            x.play(3);
            x.go();
            x.back();
            due("one table", x.about(0), 1);
            due("the first stays", x.order(0, 0, true), 1);
            due("the second is gone", x.order(1, NONE, false), NONE);
            due("a text with a fault", Due.table(x, "hide d from 1 to 2;add 7;foo"), NONE);
            due("leaves no table", x.order(1, NONE, false), NONE);
        }
    }

    private static void imageOfFullLists() {
        sentence("Terms IV", "BACK: all is so again. (full and empty lists)");
        ThinkNumber x = new ThinkNumber();
        Bounds.fill(x);
        x.image();
        x.claim(0, 0);
        x.hear(0, 0);
        x.kit(NONE, 0);
        x.ask(0);
        x.play(3);
        due("orders played", x.back(), 4);
        due("claims", x.claim(1, 1), NONE);
        due("heard", x.hear(1, 1), NONE);
        due("kit", x.kit(0, 1), NONE);
        due("asks", x.ask(2), NONE);
        due("tables", x.about(0), 4);
        due("the last claim too", x.about(4), 24);
        x.claim(0, 0);
        x.hear(0, 0);
        x.kit(NONE, 0);
        x.ask(0);
        x.image();
        x.claim(1, 1);
        x.hear(1, 1);
        x.kit(0, 1);
        x.ask(2);
        x.back();
        for (int what = 4; what <= 7; what++) {
            due("empty again", x.about(what), 0);
        }
    }

    private static void aboutEach() {
        sentence("Promise 33", "0 TABLES, 1 the TABLE that is PLAYED (NONE), 2 ORDERS PLAYED, .. 10 + letter: what was"
            + " THOUGHT.");
        ThinkNumber x = new ThinkNumber();
        Bounds.fill(x);
        int[] full = {4, 0, 4, 4, 24, 6, 6, 6, 300, -2, 7, 4, 2, 1};
        for (int what = 0; what < full.length; what++) {
            due("of a full object " + what, x.about(what), full[what]);
        }
        ThinkNumber y = usedObject();
        int[] used = {3, 0, 2, 2, 3, 1, 4, 2, 4, -2, 7, 4, 2, 1};
        for (int what = 0; what < used.length; what++) {
            due("of a used object " + what, y.about(what), used[what]);
        }
    }

    private static void aboutForOthers() {
        sentence("Promise 33", "-2 for others. (about)");
        for (int what : new int[] {-2, -1, 9, 14, 15, 19, 20, FAR, DEEP}) {
            Bounds.refused("what " + what, -2, x -> x.about(what));
        }
        Bounds.refusedBy(Bounds::use, "what 0", 3, x -> x.about(0));
        Bounds.refusedBy(Bounds::use, "what 8", 4, x -> x.about(8));
        Bounds.refusedBy(Bounds::use, "what 10", 7, x -> x.about(10));
        Bounds.refusedBy(Bounds::use, "what 13", 1, x -> x.about(13));
    }

    private static void constants() {
        sentence("Terms IV", "The constants: NONE = -1 .. SPENT = -2");
        due("NONE", ThinkNumber.NONE, -1);
        due("SPENT", ThinkNumber.SPENT, -2);
    }

    private static void calls512() {
        sentence("What it is", "An object is used for at most 512 calls after it has been made");
        ThinkNumber x = new ThinkNumber();
        x.feed(0x61646420, 0x373b2020, 0x20202020, 0x20202020, 0x20202020);
        due("the 2nd, \"add 7;\"", x.table(), 0);
        x.play(0);
        for (int call = 4; call <= 509; call += 2) {
            due("call " + call, x.go(), 0);
            due("call " + (call + 1), x.undo(), 0);
        }
        due("the 510th", x.go(), 0);
        due("the 511th", x.image(), 1);
        due("the 512th", x.value(false), 7);
    }
}
