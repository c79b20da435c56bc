/**
 * All that an object answers, as one text of a line for each call: first what leaves it as it is,
 * then what it answers as it is gone on with. Two objects with the same text are in the same state
 * as far as can be told. It takes some 300 calls, so that an object has room for 200 ahead of it.
 */
final class Everything {
    private static final int NONE = ThinkNumber.NONE;
    private static final int TABLES = 4;
    private static final int LETTERS = 4;
    private static final int MOST_ORDERS = 5;

    private final ThinkNumber x;
    private final StringBuilder answers = new StringBuilder();

    private Everything(ThinkNumber x) {
        this.x = x;
    }

    static String of(ThinkNumber x) {
        Everything all = new Everything(x);
        all.askCounts();
        for (int table = 0; table < TABLES; table++) {
            all.askTable(table);
            all.askAllOf(table);
        }
        all.askLists();
        all.goOn();
        all.goBack();
        return all.answers.toString();
    }

    private void put(String call, long answer) {
        answers.append(call).append(" -> ").append(answer).append('\n');
    }

    private void put(String call, int i, long answer) {
        put(call + " " + i, answer);
    }

    private void askCounts() {
        for (int what = 0; what <= 13; what++) {
            put("about", what, x.about(what));
        }
        put("fault", x.fault(0));
        put("place", x.fault(1));
        put("rest", x.rest(9999));
        put("struck", x.struck(7));
    }

    private void askTable(int t) {
        int orders = x.order(t, NONE, false);
        put("orders of", t, orders);
        for (int i = 0; i < orders && i < MOST_ORDERS; i++) {
            put("kind", i, x.order(t, i, false));
            put("x", i, x.order(t, i, true));
            put("upper", i, x.comes(t, i, false));
            put("lower", i, x.comes(t, i, true));
        }
        for (int letter = 0; letter < LETTERS; letter++) {
            put("first of", letter, x.span(t, letter, false));
            put("last of", letter, x.span(t, letter, true));
        }
        put("at first", x.comes(t, NONE, false));
        put("fails", x.fails(t));
        put("said", x.said(t, 0, false));
        put("said, lower", x.said(t, 0, true));
        put("second said", x.said(t, 1, false));
        put("judge", x.judge(t));
        put("slips", x.slip(t, 5, 1, NONE));
        put("slip", x.slip(t, 5, 1, 0));
    }

    private void askAllOf(int t) {
        put("same", x.same(t));
        put("more", x.more(t));
        put("fits", x.fits(t, NONE, 0));
        for (int letter = 0; letter < LETTERS; letter++) {
            put("unlike", letter, x.unlike(t, letter));
            put("least", letter, x.fits(t, letter, 0));
            put("greatest", letter, x.fits(t, letter, 1));
        }
        for (int what = 0; what <= 5; what++) {
            put("proof", what, x.proof(t, what));
        }
    }

    private void askLists() {
        for (int i = NONE; i <= 3; i++) {
            put("made", i, x.made(1, 20, 5, 5, i));
        }
        put("made of one", x.made(1, 1, 6, 2, 0));
        for (int n = 5; n <= 7; n++) {
            put("known", n, x.known(n, false));
            put("first of known", n, x.known(n, true));
        }
    }

    private void askPlayed() {
        put("value", x.value(false));
        put("value, lower", x.value(true));
    }

    private void goOn() {
        askPlayed();
        put("undo", x.undo());
        askPlayed();
        for (int k = 0; k < 3; k++) {
            put("go", x.go());
            askPlayed();
        }
        put("claim", x.claim(1, 1));
        put("hear", x.hear(1, 1));
        put("kit", x.kit(0, 1));
        put("ask", x.ask(2));
        put("feed", x.feed(0, 0, 0, 0, 0));
        put("end", x.end(0));
        put("table", x.table());
    }

    private void goBack() {
        put("back", x.back());
        for (int what = 0; what <= 13; what++) {
            put("about, back", what, x.about(what));
        }
        askPlayed();
        put("judge, back", x.judge(0));
        put("fits, back", x.fits(0, NONE, 0));
        put("made, back", x.made(1, 1, 6, 2, 0));
        put("known, back", x.known(5, false));
        put("undo, back", x.undo());
    }
}
