import java.nio.charset.StandardCharsets;
import java.util.Random;

/** Long mixed runs of calls, always the same ones, on the class and on the plain model. */
public final class AgainstModelTest {
    private static final int RUNS = 4000;
    private static final int CALLS = 50;
    private static final String[] WORDS = {"add", "take", "times", "by", "rest", "join", "turn", "across", "strike",
        "say", "hide", "from", "to", "a", "b", "c", "d", "e", "A", "Add", "addd", "0", "1", "9", "10", "9999", "10000",
        "99999999999", "007", ";", ";", ";", "", "?", "\t", "\u00e9", "-"};

    private final Random random;
    private final int run;
    private ThinkNumber x = new ThinkNumber();
    private Model model = new Model();

    private AgainstModelTest(int run) {
        this.run = run;
        random = new Random(run);
    }

    public static void main(String[] args) {
        int runs = args.length > 0 ? Integer.parseInt(args[0]) : RUNS;
        int from = args.length > 1 ? Integer.parseInt(args[1]) : 0;
        for (int run = from; run < from + runs; run++) {
            AgainstModelTest one = new AgainstModelTest(run);
            for (int call = 0; call < CALLS; call++) {
                one.call();
            }
        }
        Due.finish("AgainstModelTest");
    }

    private void due(String what, long got, long want) {
        Due.due("run " + run + ": " + what, got, want);
    }

    private int upTo(int most) {
        return random.nextInt(most + 1);
    }

    /** Mostly from -1 .. most, sometimes anything. */
    private int about(int most) {
        return upTo(30) == 0 ? odd() : upTo(most + 1) - 1;
    }

    private int odd() {
        int[] some = {-2, -1, 0, 1, 4, 9, 10, 24, 25, 9999, 10000, Integer.MAX_VALUE, Integer.MIN_VALUE};
        return upTo(2) == 0 ? random.nextInt() : some[upTo(some.length - 1)];
    }

    private int number() {
        int[] most = {3, 9, 20, 100, 1000, 9999};
        return upTo(40) == 0 ? odd() : upTo(most[upTo(most.length - 1)]);
    }

    private void call() {
        int which = upTo(40);
        if (which < 8) {
            layTable();
        } else if (which < 12) {
            layNumber();
        } else if (which < 26) {
            askOfTables();
        } else if (which < 34) {
            tellOrMake();
        } else {
            playOrKeep();
        }
    }

    private void lay(String text) {
        byte[] bytes = java.util.Arrays.copyOf(text.getBytes(StandardCharsets.ISO_8859_1), (text.length() + 19) / 20 * 20);
        due("end 0", x.end(0), model.end(0));
        for (int i = 0; i < bytes.length; i += 20) {
            int[] n = new int[5];
            for (int k = 0; k < 20; k++) {
                n[k / 4] = n[k / 4] << 8 | bytes[i + k] & 255;
            }
            due("feed", x.feed(n[0], n[1], n[2], n[3], n[4]), model.feed(n));
        }
        due("end", x.end(text.length()), model.end(text.length()));
    }

    private void layTable() {
        String text = upTo(7) == 0 ? mess() : sound();
        lay(text);
        if (upTo(9) == 0) {
            int n = about(300);
            due("end " + n, x.end(n), model.end(n));
        }
        due("table " + text, x.table(), model.table());
        due("fault of " + text, x.fault(0), model.fault(0));
        due("place in " + text, x.fault(1), model.fault(1));
        int what = about(3);
        due("fault " + what, x.fault(what), model.fault(what));
    }

    private String mess() {
        StringBuilder text = new StringBuilder(upTo(1) == 0 ? sound() : "");
        for (int k = upTo(20); k > 0; k--) {
            text.append(WORDS[upTo(WORDS.length - 1)]).append(upTo(3) == 0 ? "\n" : upTo(9) == 0 ? "" : " ");
        }
        text.setLength(Math.min(text.length(), 300));
        return text.toString();
    }

    /** A text that mostly has no fault, with spans that mostly leave few enough of ALL. */
    private String sound() {
        StringBuilder text = new StringBuilder();
        boolean[] hidden = new boolean[4];
        int clauses = upTo(9) == 0 ? 26 : 1 + upTo(8);
        for (int k = 0; k < clauses && text.length() < 270; k++) {
            int letter = upTo(5) == 0 ? upTo(3) : 0;
            boolean hide = k == 0 ? upTo(4) > 0 : upTo(5) == 0;
            if (hide && (!hidden[letter] || upTo(20) == 0)) {
                int first = upTo(3) == 0 ? upTo(100) : upTo(3);
                int last = first + upTo(new int[] {3, 12, 40}[upTo(2)]) - (upTo(40) == 0 ? 3 : 0);
                last = upTo(40) == 0 ? 9999 : last;
                text.append("hide ").append((char) ('a' + letter)).append(" from ").append(first).append(" to ")
                    .append(Math.max(last, 0));
                hidden[letter] = true;
            } else {
                text.append(orderText(hidden));
            }
            text.append(upTo(60) == 0 ? "" : ";").append(upTo(2) == 0 ? " " : "");
        }
        text.setLength(Math.min(text.length(), 300));
        return text.toString();
    }

    private String orderText(boolean[] hidden) {
        int kind = upTo(3) == 0 ? 9 : upTo(9);
        String word = WORDS[kind];
        if (kind == 8) {
            return word + " " + (upTo(40) == 0 ? 10 * upTo(1) : 1 + upTo(3));
        }
        if (kind > 5) {
            return word;
        }
        int letter = upTo(3);
        if ((hidden[letter] && upTo(1) == 0) || upTo(60) == 0) {
            return word + " " + (char) ('a' + letter);
        }
        int[] most = {3, 10, 10, 100, 1000, 9999};
        return word + " " + (upTo(80) == 0 ? 10000 : upTo(most[upTo(most.length - 1)]));
    }

    private void layNumber() {
        StringBuilder figures = new StringBuilder();
        for (int k = upTo(upTo(3) == 0 ? 299 : 8); k >= 0; k--) {
            figures.append((char) ('0' + upTo(9)));
        }
        if (upTo(1) == 0) {
            figures.setCharAt(upTo(figures.length() - 1), '?');
        }
        if (upTo(9) == 0) {
            figures.setCharAt(upTo(figures.length() - 1), "? ;a/:".charAt(upTo(5)));
        }
        lay(figures.toString());
        int m = upTo(5) == 0 ? odd() : 1 + upTo(upTo(1) == 0 ? 12 : 9998);
        due("rest of " + figures + " by " + m, x.rest(m), model.rest(m));
        due("struck of " + figures + " by " + m, x.struck(m), model.struck(m));
    }

    private void askOfTables() {
        int t = about(4);
        int i = about(12);
        int letter = about(5);
        int what = about(6);
        boolean flag = random.nextBoolean();
        String args = t + ", " + i + ", " + letter + ", " + what + ", " + flag;
        switch (upTo(13)) {
            case 0 -> due("order " + args, x.order(t, i, flag), model.order(t, i, flag));
            case 1 -> due("span " + args, x.span(t, letter, flag), model.span(t, letter, flag));
            case 2, 3 -> due("comes " + args, x.comes(t, i, flag), model.comes(t, i, flag));
            case 4 -> due("fails " + args, x.fails(t), model.fails(t));
            case 5 -> due("said " + args, x.said(t, i, flag), model.said(t, i, flag));
            case 6 -> claimTruly(t);
            case 7 -> due("same " + args, x.same(t), model.same(t));
            case 8 -> due("unlike " + args, x.unlike(t, letter), model.unlike(t, letter));
            case 9, 10 -> due("proof " + args, x.proof(t, what), model.proof(t, what));
            case 11 -> hearTruly(t);
            case 12 -> due("more " + args, x.more(t), model.more(t));
            default -> slipTruly(t);
        }
    }

    /** Claims that are right but perhaps for one. */
    private void claimTruly(int t) {
        int orders = model.order(t, -1, false);
        int wrong = upTo(12);
        tellBoth(true, 0, 0);
        for (int i = 0; i < orders && i < 14; i++) {
            long up = model.comes(t, i, false);
            long low = model.comes(t, i, true);
            if (Math.abs(up) < 100000000 && low > 0 && low < 100000) {
                tellBoth(true, (int) up * 3 + (i == wrong ? 1 : 0), (int) low * 3);
            }
        }
        due("judge " + t, x.judge(t), model.judge(t));
    }

    private void tellBoth(boolean claim, int up, int down) {
        if (claim) {
            due("claim " + up + "/" + down, x.claim(up, down), model.claim(up, down));
        } else {
            due("hear " + up + "/" + down, x.hear(up, down), model.hear(up, down));
        }
    }

    /** What is said by a thought that is among ALL, so that something fits. */
    private void hearTruly(int t) {
        int[] by = new int[4];
        for (int k = 0; k < 4; k++) {
            int low = Math.max(0, model.span(t, k, false));
            by[k] = low + upTo(Math.max(0, model.span(t, k, true)) - low);
        }
        due("think", x.think(by[0], by[1], by[2], by[3]) ? 1 : 0, model.think(by) ? 1 : 0);
        tellBoth(false, 0, 0);
        for (int i = 0; i < 7; i++) {
            long up = model.said(t, i, false);
            if (Math.abs(up) <= 1000000000) {
                tellBoth(false, (int) up, (int) model.said(t, i, true));
            }
        }
        for (int letter = -1; letter < 4; letter++) {
            int what = about(4);
            due("fits " + t + ", " + letter + ", " + what, x.fits(t, letter, what), model.fits(t, letter, what));
        }
    }

    /** An end that some slip comes to: that of the row itself, or of one near it. */
    private void slipTruly(int t) {
        int last = model.order(t, -1, false) - 1;
        long up = model.comes(t, last - upTo(1), false) * (upTo(3) == 0 ? 2 : 1);
        long low = model.comes(t, last - upTo(1), true);
        boolean small = Math.abs(up) <= 1000000000 && low > 0;
        int u = small ? (int) up : about(10);
        int d = small ? (int) low : about(3);
        for (int i = -1; i < 4; i++) {
            due("slip " + t + ", " + u + "/" + d + ", " + i, x.slip(t, u, d, i), model.slip(t, u, d, i));
        }
    }

    private void tellOrMake() {
        switch (upTo(7)) {
            case 0 -> tellBoth(true, about(20), upTo(5) == 0 ? odd() : upTo(4));
            case 1 -> tellBoth(false, upTo(9) == 0 ? odd() : about(20), upTo(5) == 0 ? odd() : upTo(4));
            case 2, 3 -> {
                int kind = upTo(20) == 0 ? odd() : upTo(7);
                int n = upTo(3) == 0 ? -1 : number();
                due("kit " + kind + ", " + n, x.kit(kind, n), model.kit(kind, n));
            }
            case 4 -> make();
            case 5 -> {
                int m = upTo(9) == 0 ? odd() : 2 + upTo(upTo(1) == 0 ? 6 : 28);
                due("ask " + m, x.ask(m), model.ask(m));
            }
            case 6 -> {
                int n = about(25);
                due("known " + n, x.known(n, false), model.known(n, false));
                due("first of " + n, x.known(n, true), model.known(n, true));
            }
            default -> thinkAnew();
        }
    }

    private void thinkAnew() {
        int[] by = {number(), number(), number(), number()};
        due("think", x.think(by[0], by[1], by[2], by[3]) ? 1 : 0, model.think(by) ? 1 : 0);
    }

    private void make() {
        int low = number();
        int high = low + (upTo(20) == 0 ? upTo(110) - 5 : upTo(2) == 0 ? upTo(9) : 0);
        int end = upTo(2) == 0 ? upTo(200) : upTo(12);
        int n = upTo(20) == 0 ? odd() : 1 + upTo(3);
        for (int i = -1; i <= 4; i++) {
            due("made " + low + ", " + high + ", " + end + ", " + n + ", " + i, x.made(low, high, end, n, i),
                model.made(low, high, end, n, i));
        }
    }

    private void playOrKeep() {
        int t = about(4);
        switch (upTo(9)) {
            case 0, 1 -> due("play " + t, x.play(t), model.play(t));
            case 2, 3, 4 -> {
                for (int k = upTo(4); k >= 0; k--) {
                    due("go", x.go(), model.go());
                    if (upTo(4) == 0) {
                        thinkAnew();
                    }
                }
            }
            case 5 -> due("undo", x.undo(), model.undo());
            case 6 -> due("image", x.image(), model.image());
            case 7 -> due("back", x.back(), model.back());
            default -> {
                int what = about(15);
                due("about " + what, x.about(what), model.about(what));
            }
        }
        due("value", x.value(false), model.value(false));
        due("value low", x.value(true), model.value(true));
    }
}
