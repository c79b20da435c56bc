import java.util.function.Consumer;
import java.util.function.ToLongFunction;

/** What the tests of boundary cases share: the sentence that is tested, and calls that are refused. */
final class Bounds {
    static final int NONE = ThinkNumber.NONE;
    static final int SPENT = ThinkNumber.SPENT;
    static final int NO_SUCH = -2;
    static final long NO_VALUE = Due.NO_VALUE;
    static final int FAR = Integer.MAX_VALUE;
    static final int DEEP = Integer.MIN_VALUE;

    private static String sentence = "";

    private Bounds() {
    }

    /** Names the document's sentence that the answers from here on are due by. */
    static void sentence(String where, String words) {
        sentence = where + ", \"" + words + "\": ";
    }

    static void due(String what, long got, long want) {
        Due.due(sentence + what, got, want);
    }

    static void due(String what, boolean got, boolean want) {
        Due.due(sentence + what, got, want);
    }

    /** The call is refused by a new, a used and a full object, and all else is as before. */
    static void refused(String what, long want, ToLongFunction<ThinkNumber> call) {
        refusedBy(x -> { }, "a new object, " + what, want, call);
        refusedBy(Bounds::use, "a used object, " + what, want, call);
        refusedBy(Bounds::fill, "a full object, " + what, want, call);
    }

    /** The call is refused by an object so set, and all else is as with one that wasn't asked. */
    static void refusedBy(Consumer<ThinkNumber> setting, String what, long want, ToLongFunction<ThinkNumber> call) {
        ThinkNumber asked = new ThinkNumber();
        ThinkNumber unasked = new ThinkNumber();
        setting.accept(asked);
        setting.accept(unasked);
        due(what, call.applyAsLong(asked), want);
        dueAlike(what, asked, unasked);
    }

    static void dueAlike(String what, ThinkNumber one, ThinkNumber other) {
        String[] got = Everything.of(one).split("\n");
        String[] want = Everything.of(other).split("\n");
        due(what + ", how many answers", got.length, want.length);
        for (int k = 0; k < got.length && k < want.length; k++) {
            if (!got[k].equals(want[k])) {
                due(what + ", all else: " + got[k] + " instead of " + want[k], false, true);
                return;
            }
        }
    }

    /** Something of everything, unlike the image, a fault, and a number on the tape. */
    static void use(ThinkNumber x) {
        Due.table(x, "hide a from 1 to 20;times 2;add 10;by 2;say;");
        x.think(3, 0, 0, 9);
        x.claim(6, 1);
        x.hear(8, 1);
        x.kit(0, 5);
        x.ask(5);
        x.play(0);
        x.go();
        x.image();
        Due.table(x, "hide b from 2 to 4;hide d from 0 to 3;add b;by d;say;turn;");
        Due.table(x, "take 7;by 4;say;");
        x.think(7, 4, 2, 1);
        tellAnew(x);
        x.play(0);
        x.go();
        x.go();
        x.go();
        x.undo();
        Due.table(x, "add e;");
        Due.lay(x, "12?4");
    }

    private static void tellAnew(ThinkNumber x) {
        x.claim(0, 0);
        x.claim(14, 1);
        x.claim(24, 1);
        x.claim(48, 4);
        x.hear(0, 0);
        x.hear(12, 1);
        x.kit(NONE, 0);
        x.kit(2, 2);
        x.kit(0, 10);
        x.kit(3, 2);
        x.kit(1, NONE);
        x.ask(0);
        x.ask(2);
        x.ask(3);
    }

    /** As much of everything as there may be. */
    static void fill(ThinkNumber x) {
        use(x);
        Due.table(x, "hide c from 3 to 5;times c;add 3;");
        for (int k = x.about(4); k < 24; k++) {
            x.claim(12, 1);
        }
        for (int k = x.about(5); k < 6; k++) {
            x.hear(k, 2);
        }
        x.kit(5, 3);
        x.kit(6, 0);
        x.ask(4);
        x.ask(7);
        x.ask(30);
        x.ask(9);
        x.go();
        x.go();
        Due.lay(x, "9876543210".repeat(30));
    }
}
