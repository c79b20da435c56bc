import java.util.function.Consumer;

/** Boundary cases of Terms II (TABLES, TOKENS, CLAUSES, FAULTS) and of promises 3 to 8. */
public final class TextBoundsTest {
    private static final int NONE = Bounds.NONE;
    private static final int FAR = Bounds.FAR;
    private static final int DEEP = Bounds.DEEP;

    public static void main(String[] args) {
        feedUpTo300();
        feedHighestFirst();
        endFirstBytes();
        endNotSoMany();
        tablesUpToFour();
        tableEmptiesTheTape();
        tableWithAFault();
        textsUpTo300();
        blanks();
        lettersOneBehindTheOther();
        digitsLikewise();
        numbers();
        semicolonAlone();
        noToken();
        clausesUpTo24();
        noClauses();
        spans();
        lettersAsX();
        strikeNumbers();
        faultFirstAsComeTo();
        faultAtTheEnd();
        faultOfOneTheLeast();
        faultCantStand();
        faultHiddenAlready();
        faultNotHidden();
        faultSpan();
        faultClause25();
        faultAheadOfAny();
        faultWithout();
        faultForOthers();
        latestTextRead();
        orderOfATable();
        orderForOthers();
        spanOfALetter();
        spanForOthers();
        Due.finish("TextBoundsTest");
    }

    private static void sentence(String where, String words) {
        Bounds.sentence(where, words);
    }

    private static void due(String what, long got, long want) {
        Bounds.due(what, got, want);
    }

    private static ThinkNumber right(String text) {
        ThinkNumber x = new ThinkNumber();
        due("a table: \"" + text + "\"", Due.table(x, text), 0);
        due("no fault: \"" + text + "\"", x.fault(0), 0);
        due("no place: \"" + text + "\"", x.fault(1), NONE);
        due("the tape is empty", x.about(8), 0);
        return x;
    }

    private static void wrong(String text, int fault, int place) {
        ThinkNumber x = new ThinkNumber();
        due("no table: \"" + text + "\"", Due.table(x, text), NONE);
        due("fault: \"" + text + "\"", x.fault(0), fault);
        due("place: \"" + text + "\"", x.fault(1), place);
        due("tables behind \"" + text + "\"", x.about(0), 0);
    }

    private static Consumer<ThinkNumber> withTape(int length) {
        return x -> {
            Bounds.use(x);
            Due.lay(x, "1234567890".repeat(30).substring(0, length));
        };
    }

    private static void feedUpTo300() {
        sentence("Promise 3", "NONE, and none come, if there would be more than 300.");
        int seven = 0x37373737;
        for (int length : new int[] {0, 1, 259, 260, 279, 280}) {
            ThinkNumber x = new ThinkNumber();
            withTape(length).accept(x);
            due("behind " + length, x.feed(seven, seven, seven, seven, seven), length + 20);
            due("then", x.about(8), length + 20);
        }
        for (int length : new int[] {281, 282, 299, 300}) {
            Bounds.refusedBy(withTape(length), "behind " + length, NONE,
                x -> x.feed(seven, seven, seven, seven, seven));
        }
        ThinkNumber x = new ThinkNumber();
        for (int k = 1; k <= 15; k++) {
            due("the " + k + "th", x.feed(DEEP, FAR, -1, 0, 1), 20 * k);
        }
        due("the 16th", x.feed(DEEP, FAR, -1, 0, 1), NONE);
        due("room again", x.end(280), 280);
        due("up to 300 again", x.feed(0, 0, 0, 0, 0), 300);
    }

    private static void feedHighestFirst() {
        sentence("Promise 3", "Twenty bytes come behind the tape, the highest of a first");
        for (int place = 0; place < 20; place++) {
            int[] five = {0x30303030, 0x30303030, 0x30303030, 0x30303030, 0x30303030};
            five[place / 4] += 1 << 24 - 8 * (place % 4);
            ThinkNumber x = new ThinkNumber();
            x.feed(five[0], five[1], five[2], five[3], five[4]);
            x.end(place);
            due("none ahead of " + place, x.rest(9999), place == 0 ? NONE : 0);
            x.feed(0, 0, 0, 0, 0);
            x.end(0);
            x.feed(five[0], five[1], five[2], five[3], five[4]);
            x.end(place + 1);
            due("the one at " + place, x.rest(9999), 1);
        }
        ThinkNumber x = new ThinkNumber();
        x.feed(0x31000000, 0, 0, 0, 0);
        x.end(1);
        x.feed(0x32330000, 0, 0, 0, 0);
        x.end(3);
        due("behind what lies there", x.rest(9999), 123);
    }

    private static void endFirstBytes() {
        sentence("Promise 4", "The tape has its first n bytes alone: n.");
        ThinkNumber x = new ThinkNumber();
        due("of the empty tape", x.end(0), 0);
        Due.lay(x, "12345");
        due("all", x.end(5), 5);
        due("all lie there", x.rest(9999), 12345 % 9999);
        due("one less", x.end(4), 4);
        due("four lie there", x.rest(9999), 1234);
        due("one", x.end(1), 1);
        due("one lies there", x.rest(9999), 1);
        due("none", x.end(0), 0);
        due("none lies there", x.rest(9999), NONE);
        Due.lay(x, "7".repeat(300));
        due("300 of 300", x.end(300), 300);
        due("299 of 300", x.end(299), 299);
    }

    private static void endNotSoMany() {
        sentence("Promise 4", "NONE, and nothing is done, if it has not so many, or n is below 0.");
        for (int length : new int[] {0, 1, 20, 299, 300}) {
            for (int n : new int[] {length + 1, length + 2, 301, FAR, -1, -2, DEEP}) {
                Bounds.refusedBy(withTape(length), n + " of " + length, NONE, x -> x.end(n));
            }
        }
    }

    private static void tablesUpToFour() {
        sentence("Promise 5", "NONE: .. or (the tape stays) there are 4.");
        ThinkNumber x = new ThinkNumber();
        for (int k = 0; k < 4; k++) {
            due("table " + k, Due.table(x, "add " + k + ";"), k);
            due("tables", x.about(0), k + 1);
        }
        for (String text : new String[] {"say;", "add;", "", "7".repeat(300)}) {
            Bounds.refusedBy(y -> {
                Bounds.fill(y);
                Due.lay(y, text);
            }, "a fifth of \"" + text + "\"", NONE, ThinkNumber::table);
        }
        Due.lay(x, "add 4;");
        due("the fifth", x.table(), NONE);
        due("the tape stays", x.about(8), 6);
        due("there are 4", x.about(0), 4);
        x.back();
        due("none are there again: the tape is read now", x.table(), 0);
        due("its order", x.order(0, 0, true), 4);
    }

    private static void tableEmptiesTheTape() {
        sentence("Promise 5", "The tape (empty then) is a TABLE: its number.");
        ThinkNumber x = new ThinkNumber();
        Due.lay(x, "say;");
        due("the first", x.table(), 0);
        due("empty then", x.about(8), 0);
        due("nothing of it can be had again", x.end(1), NONE);
        due("the next text begins anew", x.feed(0x73617920, 0x3b202020, 0x20202020, 0x20202020, 0x20202020), 20);
        due("the second", x.table(), 1);
        due("its orders", x.order(1, NONE, false), 1);
    }

    private static void tableWithAFault() {
        sentence("Promise 5", "NONE: it has a FAULT");
        ThinkNumber asked = new ThinkNumber();
        ThinkNumber unasked = new ThinkNumber();
        for (ThinkNumber x : new ThinkNumber[] {asked, unasked}) {
            Bounds.use(x);
            Due.lay(x, "hide a from 1 to 2;say;add 7;hide d from 1 to 2;times d;foo");
        }
        due("none", asked.table(), NONE);
        due("the tape is empty then", asked.about(8), 0);
        due("its fault", asked.fault(0), 1);
        due("its place", asked.fault(1), 56);
        // the fault and the tape are made alike again: all else must be
        Due.table(asked, "foo");
        Due.table(unasked, "foo");
        Bounds.dueAlike("a text with a fault", asked, unasked);
        due("a table may come behind it", Due.table(asked, "say;"), asked.about(0) - 1);
    }

    private static void textsUpTo300() {
        sentence("Terms II", "TABLES 0 .. 3 come of texts of up to 300 bytes.");
        for (int length : new int[] {299, 300}) {
            ThinkNumber x = right(" ".repeat(length - 6) + "add 7;");
            due("its order", x.order(0, 0, true), 7);
            wrong(" ".repeat(length - 1) + "!", 1, length - 1);
            wrong(" ".repeat(length - 3) + "say", 1, length);
            right("say;" + "\n".repeat(length - 4));
            right("add " + "0".repeat(length - 6) + "7;");
        }
    }

    private static void blanks() {
        sentence("Terms II", "TOKENS, blanks (32, 10) aside");
        right("add 1;");
        right("add\n1;");
        right("\n add \n 1 \n ; \n");
        right("hide a from1to2;add1;take a;");
        for (int code : new int[] {0, 9, 11, 12, 13, 31, 33, 160, 255}) {
            wrong("add" + (char) code + "1;", 1, 3);
            wrong((char) code + "say;", 1, 0);
            wrong("say;" + (char) code, 1, 4);
        }
    }

    private static void lettersOneBehindTheOther() {
        sentence("Terms II", "letters a .. z, A .. Z one behind the other (one TOKEN)");
        for (char close : new char[] {'a', 'b', 'y', 'z', 'A', 'B', 'Y', 'Z'}) {
            wrong("say" + close + ";", 1, 0);
            wrong("say " + close + ";", 1, 4);
        }
        for (int code : new int[] {'a' - 1, 'z' + 1, 'A' - 1, 'Z' + 1, 'a' + 128, 'Z' + 128}) {
            wrong("say" + (char) code + ";", 1, 3);
        }
        wrong("addaa;", 1, 0);
        wrong("hide a from 1 to 2;add aa;", 1, 23);
        wrong("hide aa from 1 to 2;", 1, 5);
        wrong("sa y;", 1, 0);
        wrong("SAY;", 1, 0);
        wrong("Say;", 1, 0);
        wrong("saY;", 1, 0);
    }

    private static void digitsLikewise() {
        sentence("Terms II", "digits likewise (NUMBERS, 0 .. 9999)");
        ThinkNumber x = right("add 0;add 1;add 8;add 9;add 10;");
        for (int i = 0; i < 5; i++) {
            due("x of " + i, x.order(0, i, true), new int[] {0, 1, 8, 9, 10}[i]);
        }
        wrong("add 1 2;", 1, 6);
        wrong("add 1/;", 1, 5);
        wrong("add 1:;", 1, 5);
        wrong("add /;", 1, 4);
        wrong("add :;", 1, 4);
        wrong("add 1a;", 1, 5);
        wrong("add " + (char) ('1' + 128) + ";", 1, 4);
    }

    private static void numbers() {
        sentence("Terms II", "2 a NUMBER that isn't one of those told (above 9999; of strike 1 .. 9)");
        for (String order : new String[] {"add", "take", "times", "by", "rest", "join"}) {
            int place = order.length() + 1;
            due("0", right(order + " 0;").order(0, 0, true), 0);
            due("9998", right(order + " 9998;").order(0, 0, true), 9998);
            due("9999", right(order + " 9999;").order(0, 0, true), 9999);
            due("09999", right(order + " 09999;").order(0, 0, true), 9999);
            wrong(order + " 10000;", 2, place);
            wrong(order + " 10001;", 2, place);
            wrong(order + " 010000;", 2, place);
        }
        due("many 0 ahead", right("add " + "0".repeat(280) + "12;").order(0, 0, true), 12);
        wrong("add 2147483647;", 2, 4);
        wrong("add 2147483648;", 2, 4);
        wrong("add 4294967296;", 2, 4);
        wrong("add 4294967297;", 2, 4);
        wrong("add 18446744073709551617;", 2, 4);
        wrong("add " + "9".repeat(290) + ";", 2, 4);
        right("hide a from 9999 to 9999;");
        wrong("hide a from 10000 to 10000;", 2, 12);
        wrong("hide a from 9999 to 10000;", 2, 20);
        wrong("hide a from 4294967296 to 1;", 2, 12);
        wrong("hide a from 0 to 4294967297;", 2, 17);
    }

    private static void strikeNumbers() {
        sentence("Terms II", "(above 9999; of strike 1 .. 9)");
        wrong("strike 0;", 2, 7);
        due("1", right("strike 1;").order(0, 0, true), 1);
        due("2", right("strike 2;").order(0, 0, true), 2);
        due("8", right("strike 8;").order(0, 0, true), 8);
        due("9", right("strike 9;").order(0, 0, true), 9);
        due("009", right("strike 009;").order(0, 0, true), 9);
        wrong("strike 10;", 2, 7);
        wrong("strike 9999;", 2, 7);
        wrong("strike 10000;", 2, 7);
        wrong("strike 00;", 2, 7);
        wrong("strike 4294967297;", 2, 7);
        wrong("hide a from 1 to 9;strike a;", 1, 26);
        wrong("strike;", 1, 6);
    }

    private static void semicolonAlone() {
        sentence("Terms II", "; alone");
        right("say;say;");
        wrong("say;;", 1, 4);
        wrong(";", 1, 0);
        wrong("say;say;;say;", 1, 8);
        wrong("say:", 1, 3);
        wrong("say<", 1, 3);
        wrong("say" + (char) (';' + 128), 1, 3);
    }

    private static void noToken() {
        sentence("Terms II", "1 it can't stand there, or is none.");
        for (int code = 0; code < 256; code++) {
            boolean letter = code >= 'a' && code <= 'z' || code >= 'A' && code <= 'Z';
            boolean digit = code >= '0' && code <= '9';
            boolean blank = code == 32 || code == 10;
            String text = "say;" + (char) code + ";";
            if (blank) {
                wrong(text, 1, 5);
            } else {
                wrong(text, 1, 4);
            }
            if (!letter && !digit && !blank && code != ';') {
                wrong("say" + (char) code + ";", 1, 3);
                wrong("add " + (char) code + ";", 1, 4);
                wrong("add 1" + (char) code + ";", 1, 5);
            }
        }
    }

    private static void clausesUpTo24() {
        sentence("Terms II", "{CLAUSE}, 24 at most");
        due("23", right("say;".repeat(23)).order(0, NONE, false), 23);
        due("24", right("say;".repeat(24)).order(0, NONE, false), 24);
        wrong("say;".repeat(25), 6, 96);
        due("24 with two hides", right("hide a from 1 to 2;hide b from 1 to 2;" + "say;".repeat(22))
            .order(0, NONE, false), 22);
        wrong("hide a from 1 to 2;" + "say;".repeat(24), 6, 19 + 92);
        due("24, hide last", right("say;".repeat(23) + "hide a from 1 to 2;").span(0, 0, true), 2);
        wrong("say;".repeat(24) + "hide a from 1 to 2;", 6, 96);
        due("the 24th order", right("say;".repeat(23) + "add 9999;").order(0, 23, true), 9999);
    }

    private static void noClauses() {
        sentence("Terms II", "{CLAUSE}, 24 at most (none)");
        due("the empty text", right("").order(0, NONE, false), 0);
        due("a blank", right(" ").order(0, NONE, false), 0);
        due("300 blanks", right(" \n".repeat(150)).order(0, NONE, false), 0);
        due("hide alone", right("hide a from 1 to 2;").order(0, NONE, false), 0);
    }

    private static void spans() {
        sentence("Terms II", "hide LETTER from NUMBER to NUMBER ; (it is HIDDEN in this SPAN)");
        for (int letter = 0; letter < 4; letter++) {
            ThinkNumber x = right("hide " + (char) ('a' + letter) + " from 0 to 9999;");
            for (int other = 0; other < 4; other++) {
                due("first of " + other, x.span(0, other, false), other == letter ? 0 : NONE);
                due("last of " + other, x.span(0, other, true), other == letter ? 9999 : NONE);
            }
        }
        wrong("hide e from 1 to 2;", 1, 5);
        wrong("hide A from 1 to 2;", 1, 5);
        wrong("hide ` from 1 to 2;", 1, 5);
        wrong("hide 1 from 1 to 2;", 1, 5);
        wrong("hide from 1 to 2;", 1, 5);
    }

    private static void lettersAsX() {
        sentence("Terms II", "X: NUMBER or LETTER (a, b, c, d).");
        String hides = "hide a from 1 to 2;hide b from 1 to 2;hide c from 1 to 2;hide d from 1 to 2;";
        for (String order : new String[] {"add", "take", "times", "by", "rest", "join"}) {
            for (int letter = 0; letter < 4; letter++) {
                ThinkNumber x = right(hides + order + " " + (char) ('a' + letter) + ";");
                due("x", x.order(0, 0, true), 10000 + letter);
            }
            int place = hides.length() + order.length() + 1;
            wrong(hides + order + " e;", 1, place);
            wrong(hides + order + " A;", 1, place);
            wrong(hides + order + " D;", 1, place);
            wrong(hides + order + " `;", 1, place);
            wrong(hides + order + " ;", 1, place);
            wrong(hides + order + " " + order + ";", 1, place);
        }
        for (String order : new String[] {"turn", "across", "say"}) {
            wrong(hides + order + " a;", 1, hides.length() + order.length() + 1);
            wrong(hides + order + " 1;", 1, hides.length() + order.length() + 1);
        }
    }

    private static void faultFirstAsComeTo() {
        sentence("Terms II", "FAULTS, the first as TOKENS are come to");
        wrong("add 10000;add e;", 2, 4);
        wrong("add e;add 10000;", 1, 4);
        wrong("add 10000 foo", 2, 4);
        wrong("hide a from 10000 to 1;hide a from 1 to 2;", 2, 12);
        wrong("hide a from 2 to 1 foo", 5, 17);
        wrong("add a 10000;", 4, 4);
        wrong("hide a from 1 to 2;hide a from 10000 to 1;", 3, 24);
        wrong("strike 0 ! ;", 2, 7);
        wrong("say ! ;add 10000;", 1, 4);
    }

    private static void faultAtTheEnd() {
        sentence("Terms II", "at the TOKEN's first byte (of the end at the length)");
        String[] texts = {"say", "add", "add 1", "strike", "strike 1", "hide", "hide a", "hide a from", "hide a from 1",
            "hide a from 1 to", "hide a from 1 to 2"};
        for (String text : texts) {
            wrong(text, 1, text.length());
            wrong(text + " ", 1, text.length() + 1);
            wrong(text + " \n \n", 1, text.length() + 4);
        }
        wrong("say; \n  foo;", 1, 8);
        wrong("add   \n\n10000;", 2, 8);
        wrong("add \n \nb;", 4, 7);
    }

    private static void faultOfOneTheLeast() {
        sentence("Terms II", "of one the least");
        String full = "say;".repeat(24);
        wrong("10000;", 1, 0);
        wrong("say 10000;", 1, 4);
        wrong("hide 10000 from 1 to 2;", 1, 5);
        wrong("hide a from 1 to 2;hide a 10000", 3, 24);
        wrong("hide a from 5 to 10000;", 2, 17);
        wrong(full + "foo;", 1, 96);
        wrong(full + "10000;", 1, 96);
        wrong(full + ";", 1, 96);
        wrong(full + "!", 1, 96);
        wrong(full + "a", 1, 96);
        wrong(full + "add 10000;", 6, 96);
        wrong(full + "add", 6, 96);
    }

    private static void faultCantStand() {
        sentence("Terms II", "1 it can't stand there");
        wrong("from;", 1, 0);
        wrong("to;", 1, 0);
        wrong("a;", 1, 0);
        wrong("1;", 1, 0);
        wrong("hide a to 1 to 2;", 1, 7);
        wrong("hide a from 1 from 2;", 1, 14);
        wrong("hide a 1 to 2;", 1, 7);
        wrong("hide a from a to 2;", 1, 12);
        wrong("hide a from 1 2;", 1, 14);
        wrong("hide a from 1 to a;", 1, 17);
        wrong("hide a from 1 to 2 3;", 1, 19);
        wrong("hide a From 1 to 2;", 1, 7);
        wrong("hide a fro 1 to 2;", 1, 7);
        wrong("hide a fromm 1 to 2;", 1, 7);
        wrong("hide a from 1 too 2;", 1, 14);
        wrong("hid a from 1 to 2;", 1, 0);
        wrong("add 1 say;", 1, 6);
    }

    private static void faultHiddenAlready() {
        sentence("Terms II", "3 hide of a LETTER that is HIDDEN already (at it).");
        for (char letter = 'a'; letter <= 'd'; letter++) {
            String once = "hide " + letter + " from 0 to 0;";
            right(once);
            wrong(once + once, 3, 24);
            wrong(once + "say;hide " + letter, 3, 28);
        }
        right("hide a from 0 to 0;hide b from 0 to 0;hide c from 0 to 0;hide d from 0 to 0;");
        ThinkNumber x = right("hide a from 1 to 2;");
        due("hidden at another table", Due.table(x, "hide a from 3 to 4;"), 1);
        due("its own span", x.span(1, 0, false), 3);
        due("the other's", x.span(0, 0, false), 1);
    }

    private static void faultNotHidden() {
        sentence("Terms II", "4 a LETTER as X that isn't HIDDEN by a CLAUSE ahead (at it).");
        for (char letter = 'a'; letter <= 'd'; letter++) {
            wrong("add " + letter + ";", 4, 4);
            wrong("add " + letter + ";hide " + letter + " from 1 to 2;", 4, 4);
            right("hide " + letter + " from 1 to 2;add " + letter + ";");
            right("hide " + letter + " from 1 to 2;say;add " + letter + ";");
        }
        wrong("hide a from 1 to 2;hide c from 1 to 2;add b;", 4, 42);
        ThinkNumber x = right("hide a from 1 to 2;");
        due("hidden at another table alone", Due.table(x, "add a;"), NONE);
        due("its fault", x.fault(0), 4);
        Due.table(x, "hide b from 1 to 2;foo");
        due("hidden by a text with a fault alone", Due.table(x, "add b;"), NONE);
        due("its fault", x.fault(0), 4);
    }

    private static void faultSpan() {
        sentence("Terms II", "5 a SPAN's second NUMBER below its first (at it).");
        wrong("hide a from 5 to 4;", 5, 17);
        right("hide a from 5 to 5;");
        right("hide a from 5 to 6;");
        wrong("hide a from 1 to 0;", 5, 17);
        right("hide a from 0 to 0;");
        wrong("hide a from 9999 to 9998;", 5, 20);
        wrong("hide a from 9999 to 0", 5, 20);
        right("hide a from 9999 to 9999;");
        right("hide a from 10 to 9999;");
        right("hide a from 09 to 10;");
    }

    private static void faultClause25() {
        sentence("Terms II", "6 the 25th CLAUSE (at its first TOKEN).");
        right("say;".repeat(24) + "  \n");
        wrong("say;".repeat(24) + "  \nsay;", 6, 99);
        String[] words = {"add", "take", "times", "by", "rest", "join", "turn", "across", "strike", "say", "hide"};
        for (String word : words) {
            wrong("say;".repeat(24) + word, 6, 96);
            wrong("say;".repeat(24) + word + " !", 6, 96);
        }
        wrong("say;".repeat(23) + "say !", 1, 96);
        wrong("say;".repeat(30), 6, 96);
    }

    private static void faultAheadOfAny() {
        sentence("Promise 6", "NONE for others, and ahead of any.");
        ThinkNumber x = new ThinkNumber();
        due("its fault", x.fault(0), NONE);
        due("its place", x.fault(1), NONE);
        Due.lay(x, "foo");
        due("a text that wasn't read", x.fault(0), NONE);
        x.image();
        x.back();
        due("not by an image", x.fault(0), NONE);
        x.table();
        due("now it was read", x.fault(0), 1);
    }

    private static void faultWithout() {
        sentence("Promise 6", "0 its FAULT (0 without), 1 its place (NONE without).");
        ThinkNumber x = new ThinkNumber();
        Due.table(x, "foo");
        due("fault", x.fault(0), 1);
        due("place 0", x.fault(1), 0);
        Due.table(x, "");
        due("without", x.fault(0), 0);
        due("place without", x.fault(1), NONE);
        Due.table(x, "say;".repeat(25));
        due("fault", x.fault(0), 6);
        due("place", x.fault(1), 96);
    }

    private static void faultForOthers() {
        sentence("Promise 6", "NONE for others");
        for (int what : new int[] {-2, -1, 2, 3, FAR, DEEP}) {
            Bounds.refused("what " + what, NONE, x -> x.fault(what));
        }
        Bounds.refusedBy(Bounds::use, "what 0", 1, x -> x.fault(0));
        Bounds.refusedBy(Bounds::use, "what 1", 4, x -> x.fault(1));
    }

    private static void latestTextRead() {
        sentence("Promise 6", "Of the latest text that was read");
        ThinkNumber x = new ThinkNumber();
        for (int k = 0; k < 4; k++) {
            Due.table(x, "say;");
        }
        Due.lay(x, "foo");
        x.table();
        due("with 4 tables it isn't read", x.fault(0), 0);
        due("no place", x.fault(1), NONE);
        x.back();
        x.table();
        due("now it is", x.fault(0), 1);
        x.image();
        Due.table(x, "add 10000;");
        x.back();
        due("an image hasn't it", x.fault(0), 2);
        due("nor its place", x.fault(1), 4);
    }

    private static void orderOfATable() {
        sentence("Promise 7", "its kind (x false), its NUMBER, or 10000 and a LETTER (0 without X)");
        ThinkNumber x = right("hide a from 1 to 2;hide d from 1 to 2;add 0;take 9999;times a;by d;rest 1;join 2;turn;"
            + "across;strike 9;say;");
        int[] xs = {0, 9999, 10000, 10003, 1, 2, 0, 0, 9, 0};
        for (int i = 0; i < xs.length; i++) {
            due("kind", x.order(0, i, false), i);
            due("x", x.order(0, i, true), xs[i]);
        }
        due("how many", x.order(0, NONE, false), 10);
        due("how many, x true", x.order(0, NONE, true), 10);
    }

    private static void orderForOthers() {
        sentence("Promise 7", "NONE for others; i NONE: how many ORDERS.");
        Bounds.refusedBy(Bounds::use, "how many", 3, x -> x.order(2, NONE, false));
        Bounds.refusedBy(Bounds::use, "the first", 1, x -> x.order(2, 0, false));
        Bounds.refusedBy(Bounds::use, "the last", 9, x -> x.order(2, 2, false));
        for (int i : new int[] {-2, 3, 4, 23, 24, FAR, DEEP}) {
            Bounds.refusedBy(Bounds::use, "order " + i, NONE, x -> x.order(2, i, false));
            Bounds.refusedBy(Bounds::use, "x of order " + i, NONE, x -> x.order(2, i, true));
        }
        for (int table : new int[] {-2, -1, 4, FAR, DEEP}) {
            Bounds.refused("table " + table, NONE, x -> x.order(table, 0, false));
            Bounds.refused("how many of table " + table, NONE, x -> x.order(table, NONE, true));
        }
        Bounds.refusedBy(Bounds::use, "the table behind the last", NONE, x -> x.order(3, NONE, false));
        Bounds.refusedBy(Bounds::fill, "the last of 4", 2, x -> x.order(3, NONE, false));
        Bounds.refusedBy(x -> { }, "no table", NONE, x -> x.order(0, NONE, false));
        due("the 24th", right("say;".repeat(24)).order(0, 23, false), 9);
        due("the 25th", right("say;".repeat(24)).order(0, 24, false), NONE);
        due("the first of none", right("").order(0, 0, false), NONE);
    }

    private static void spanOfALetter() {
        sentence("Promise 8", "NONE: it isn't HIDDEN");
        ThinkNumber x = right("hide b from 0 to 0;hide d from 9999 to 9999;");
        int[] firsts = {NONE, 0, NONE, 9999};
        for (int letter = 0; letter < 4; letter++) {
            due("first of " + letter, x.span(0, letter, false), firsts[letter]);
            due("last of " + letter, x.span(0, letter, true), firsts[letter]);
        }
    }

    private static void spanForOthers() {
        sentence("Promise 8", "and for others (span)");
        Bounds.refusedBy(Bounds::use, "letter 0", 20, x -> x.span(0, 0, true));
        Bounds.refusedBy(Bounds::use, "letter 3", 0, x -> x.span(1, 3, false));
        for (int letter : new int[] {-2, -1, 4, 5, FAR, DEEP}) {
            Bounds.refusedBy(Bounds::use, "letter " + letter, NONE, x -> x.span(0, letter, false));
            Bounds.refusedBy(Bounds::fill, "last of letter " + letter, NONE, x -> x.span(3, letter, true));
        }
        for (int table : new int[] {-1, 4, FAR, DEEP}) {
            Bounds.refused("table " + table, NONE, x -> x.span(table, 0, false));
            Bounds.refused("last at table " + table, NONE, x -> x.span(table, 3, true));
        }
        Bounds.refusedBy(Bounds::use, "the table behind the last", NONE, x -> x.span(3, 2, false));
        Bounds.refusedBy(Bounds::fill, "the last of 4", 3, x -> x.span(3, 2, false));
        Bounds.refusedBy(x -> { }, "no table", NONE, x -> x.span(0, 0, false));
    }
}
