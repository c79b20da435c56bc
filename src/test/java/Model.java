import java.math.BigInteger;
import java.util.ArrayList;
import java.util.Arrays;
import java.util.HashSet;
import java.util.List;
import java.util.Set;
import java.util.TreeSet;

/**
 * The document once more, as slow and plain as can be and by other means than the class (big
 * numbers, texts, sets), so that the two can be held against each other.
 */
final class Model {
    static final long NO_VALUE = Due.NO_VALUE;
    private static final BigInteger UP_MAX = BigInteger.valueOf(1000000000000L);
    private static final BigInteger LOW_MAX = BigInteger.valueOf(1000000L);
    private static final List<String> WORDS = List.of("add", "take", "times", "by", "rest", "join", "turn", "across",
        "strike", "say");

    /** A fraction; null stands for an order that can't be. */
    record Frac(BigInteger up, BigInteger low) {
        static Frac of(BigInteger up, BigInteger low) {
            BigInteger g = up.gcd(low);
            return new Frac(up.divide(g), low.divide(g));
        }

        static Frac of(long up, long low) {
            return of(BigInteger.valueOf(up), BigInteger.valueOf(low));
        }

        long part(boolean lower) {
            return (lower ? low : up).longValueExact();
        }
    }

    /** letter is -1 for a number. */
    record Order(int kind, int number, int letter) {
        int x(int[] thought) {
            return letter < 0 ? number : thought[letter];
        }
    }

    record Table(List<Order> orders, int[][] spans) {
        long all() {
            long n = 1;
            for (int[] s : spans) {
                n *= s == null ? 1 : s[1] - s[0] + 1;
            }
            return n;
        }
    }

    record Kept(List<Table> tables, int[] thought, List<Frac> claims, List<Frac> heard, List<Order> kit,
        List<Integer> asks, int played, List<Frac> steps) {
    }

    private List<Table> tables = new ArrayList<>();
    private int[] thought = new int[4];
    private List<Frac> claims = new ArrayList<>();
    private List<Frac> heard = new ArrayList<>();
    private List<Order> kit = new ArrayList<>();
    private List<Integer> asks = new ArrayList<>();
    private int played = -1;
    /** The values of the row played: that at first, and one for each step. */
    private List<Frac> steps = new ArrayList<>();
    private final StringBuilder tape = new StringBuilder();
    private int fault = -1;
    private int place = -1;
    private Kept kept = snapshot();

    private Kept snapshot() {
        return new Kept(new ArrayList<>(tables), thought.clone(), new ArrayList<>(claims), new ArrayList<>(heard),
            new ArrayList<>(kit), new ArrayList<>(asks), played, new ArrayList<>(steps));
    }

    boolean think(int... four) {
        for (int n : four) {
            if (n < 0 || n > 9999) {
                return false;
            }
        }
        thought = four.clone();
        return true;
    }

    int feed(int... five) {
        if (tape.length() > 280) {
            return -1;
        }
        for (int n : five) {
            tape.append((char) (n >>> 24)).append((char) (n >>> 16 & 255)).append((char) (n >>> 8 & 255))
                .append((char) (n & 255));
        }
        return tape.length();
    }

    int end(int n) {
        if (n < 0 || n > tape.length()) {
            return -1;
        }
        tape.setLength(n);
        return n;
    }

    int table() {
        if (tables.size() == 4) {
            return -1;
        }
        Table read = read(tape.toString());
        tape.setLength(0);
        if (read == null) {
            return -1;
        }
        tables.add(read);
        return tables.size() - 1;
    }

    /** Token by token through a chain of what may come next. */
    private Table read(String text) {
        List<Order> orders = new ArrayList<>();
        int[][] spans = new int[4][];
        int clauses = 0;
        String wants = "clause";
        int kind = -1;
        int letter = -1;
        int first = -1;
        int x = 0;
        int xLetter = -1;
        fault = 0;
        place = -1;
        int i = 0;
        while (true) {
            while (i < text.length() && (text.charAt(i) == ' ' || text.charAt(i) == '\n')) {
                i++;
            }
            int start = i;
            String token = "";
            if (i < text.length()) {
                String rest = text.substring(i);
                String word = rest.replaceFirst("(?s)[^a-zA-Z].*", "");
                String digits = rest.replaceFirst("(?s)[^0-9].*", "");
                token = !word.isEmpty() ? word : !digits.isEmpty() ? digits : rest.substring(0, 1);
                i += token.length();
            }
            boolean isNumber = token.matches("[0-9]+");
            boolean isLetter = token.matches("[abcd]");
            BigInteger number = isNumber ? new BigInteger(token) : null;
            boolean small = isNumber && number.compareTo(BigInteger.valueOf(9999)) <= 0;
            int why = 0;
            switch (wants) {
                case "clause" -> {
                    if (token.isEmpty()) {
                        return new Table(orders, spans);
                    }
                    kind = WORDS.indexOf(token);
                    if (kind < 0 && !token.equals("hide")) {
                        why = 1;
                    } else if (clauses == 24) {
                        why = 6;
                    }
                    clauses++;
                    x = 0;
                    xLetter = -1;
                    wants = kind < 0 ? "letter" : kind <= 5 ? "x" : kind == 8 ? "figure" : ";";
                }
                case "letter" -> {
                    letter = isLetter ? token.charAt(0) - 'a' : -1;
                    why = !isLetter ? 1 : spans[letter] != null ? 3 : 0;
                    wants = "from";
                }
                case "from", "to" -> {
                    why = token.equals(wants) ? 0 : 1;
                    wants = wants.equals("from") ? "first" : "last";
                }
                case "first" -> {
                    why = !isNumber ? 1 : !small ? 2 : 0;
                    first = small ? number.intValue() : -1;
                    wants = "to";
                }
                case "last" -> {
                    why = !isNumber ? 1 : !small ? 2 : number.intValue() < first ? 5 : 0;
                    if (why == 0) {
                        spans[letter] = new int[] {first, number.intValue()};
                    }
                    wants = "; of hide";
                }
                case "x" -> {
                    why = isNumber ? small ? 0 : 2 : !isLetter ? 1 : spans[token.charAt(0) - 'a'] == null ? 4 : 0;
                    x = small ? number.intValue() : 0;
                    xLetter = isLetter ? token.charAt(0) - 'a' : -1;
                    wants = ";";
                }
                case "figure" -> {
                    boolean one = small && number.intValue() >= 1 && number.intValue() <= 9;
                    why = !isNumber ? 1 : one ? 0 : 2;
                    x = one ? number.intValue() : 0;
                    wants = ";";
                }
                default -> {
                    why = token.equals(";") ? 0 : 1;
                    if (wants.equals(";")) {
                        orders.add(new Order(kind, x, xLetter));
                    }
                    wants = "clause";
                }
            }
            if (why != 0) {
                fault = why;
                place = start;
                return null;
            }
        }
    }

    int fault(int what) {
        return what == 0 ? fault : what == 1 ? place : -1;
    }

    private Table find(int n) {
        return n < 0 || n >= tables.size() ? null : tables.get(n);
    }

    int order(int table, int i, boolean x) {
        Table t = find(table);
        if (t == null || i < -1 || i >= t.orders().size()) {
            return -1;
        }
        if (i == -1) {
            return t.orders().size();
        }
        Order o = t.orders().get(i);
        return !x ? o.kind() : o.letter() >= 0 ? 10000 + o.letter() : o.number();
    }

    int span(int table, int letter, boolean high) {
        Table t = find(table);
        if (t == null || letter < 0 || letter > 3 || t.spans()[letter] == null) {
            return -1;
        }
        return t.spans()[letter][high ? 1 : 0];
    }

    private static Frac limited(BigInteger up, BigInteger low) {
        Frac f = Frac.of(up, low);
        return f.up().abs().compareTo(UP_MAX) > 0 || f.low().compareTo(LOW_MAX) > 0 ? null : f;
    }

    private static Frac whole(String figures) {
        return limited(new BigInteger(figures), BigInteger.ONE);
    }

    private static Frac obey(Frac v, int kind, int number) {
        BigInteger x = BigInteger.valueOf(number);
        switch (kind) {
            case 0:
                return limited(v.up().add(x.multiply(v.low())), v.low());
            case 1:
                return limited(v.up().subtract(x.multiply(v.low())), v.low());
            case 2:
                return limited(v.up().multiply(x), v.low());
            case 3:
                return number == 0 ? null : limited(v.up(), v.low().multiply(x));
            case 9:
                return v;
            default:
        }
        if (!v.low().equals(BigInteger.ONE) || v.up().signum() < 0) {
            return null;
        }
        String figures = v.up().toString();
        switch (kind) {
            case 4:
                return number == 0 ? null : limited(v.up().mod(x), BigInteger.ONE);
            case 5:
                return whole(figures + number);
            case 6:
                return whole(new StringBuilder(figures).reverse().toString());
            case 7:
                return Frac.of(figures.chars().map(c -> c - '0').sum(), 1);
            default:
                return number > figures.length() ? null
                    : whole("0" + figures.substring(0, number - 1) + figures.substring(number));
        }
    }

    private static Frac begin(Table t, int[] by) {
        return Frac.of(t.spans()[0] == null ? 0 : by[0], 1);
    }

    /** The value at first and behind each order that can be. */
    private static List<Frac> run(Table t, int[] by) {
        return run(begin(t, by), t.orders(), by);
    }

    private static List<Frac> run(Frac from, List<Order> orders, int[] by) {
        List<Frac> values = new ArrayList<>();
        Frac v = from;
        values.add(v);
        for (Order o : orders) {
            v = obey(v, o.kind(), o.x(by));
            if (v == null) {
                break;
            }
            values.add(v);
        }
        return values;
    }

    private static boolean ends(Table t, List<Frac> values) {
        return values.size() == t.orders().size() + 1;
    }

    private static List<Frac> saidOf(Table t, List<Frac> values) {
        List<Frac> said = new ArrayList<>();
        for (int i = 1; i < values.size(); i++) {
            if (t.orders().get(i - 1).kind() == 9) {
                said.add(values.get(i));
            }
        }
        return said;
    }

    long comes(int table, int i, boolean low) {
        Table t = find(table);
        if (t == null || i < -1 || i >= run(t, thought).size() - 1) {
            return NO_VALUE;
        }
        return run(t, thought).get(i + 1).part(low);
    }

    int fails(int table) {
        Table t = find(table);
        if (t == null) {
            return -2;
        }
        return ends(t, run(t, thought)) ? -1 : run(t, thought).size() - 1;
    }

    long said(int table, int i, boolean low) {
        Table t = find(table);
        if (t == null) {
            return NO_VALUE;
        }
        List<Frac> said = saidOf(t, run(t, thought));
        return i < 0 || i >= said.size() ? NO_VALUE : said.get(i).part(low);
    }

    private static boolean told(int up, int down) {
        return up >= -1000000000 && up <= 1000000000 && down >= 1 && down <= 1000000;
    }

    private static int tell(List<Frac> list, int most, int up, int down) {
        if (down == 0) {
            list.clear();
            return 0;
        }
        if (!told(up, down) || list.size() == most) {
            return -1;
        }
        list.add(Frac.of(up, down));
        return list.size();
    }

    int claim(int up, int down) {
        return tell(claims, 24, up, down);
    }

    int judge(int table) {
        Table t = find(table);
        if (t == null) {
            return -2;
        }
        List<Frac> values = run(t, thought);
        for (int i = 0; i < t.orders().size() && i < claims.size(); i++) {
            if (i + 1 >= values.size() || !values.get(i + 1).equals(claims.get(i))) {
                return i;
            }
        }
        return -1;
    }

    private static List<int[]> allOf(Table t) {
        int[][] s = new int[4][];
        for (int k = 0; k < 4; k++) {
            s[k] = t.spans()[k] == null ? new int[] {0, 0} : t.spans()[k];
        }
        List<int[]> all = new ArrayList<>();
        for (int a = s[0][0]; a <= s[0][1]; a++) {
            for (int b = s[1][0]; b <= s[1][1]; b++) {
                for (int c = s[2][0]; c <= s[2][1]; c++) {
                    for (int d = s[3][0]; d <= s[3][1]; d++) {
                        all.add(new int[] {a, b, c, d});
                    }
                }
            }
        }
        return all;
    }

    private static int[] firstUnlike(Table t) {
        List<int[]> all = allOf(t);
        List<Frac> model = run(t, all.get(0));
        for (int[] by : all) {
            List<Frac> values = run(t, by);
            if (!ends(t, values) || !values.get(values.size() - 1).equals(model.get(model.size() - 1))) {
                return by;
            }
        }
        return null;
    }

    int same(int table) {
        Table t = find(table);
        return t == null ? -1 : t.all() > 20000 ? -2 : firstUnlike(t) == null ? 1 : 0;
    }

    int unlike(int table, int letter) {
        Table t = find(table);
        if (t == null || letter < 0 || letter > 3) {
            return -1;
        }
        if (t.all() > 20000) {
            return -2;
        }
        int[] by = firstUnlike(t);
        return by == null ? -1 : by[letter];
    }

    /** Each letter's factor and the number are fractions of their own here. */
    long proof(int table, int what) {
        Table t = find(table);
        if (t == null || what < 0 || what > 5) {
            return NO_VALUE;
        }
        Frac[] parts = new Frac[5];
        Arrays.fill(parts, Frac.of(0, 1));
        parts[0] = Frac.of(t.spans()[0] == null ? 0 : 1, 1);
        BigInteger low = BigInteger.ONE;
        for (Order o : t.orders()) {
            BigInteger x = BigInteger.valueOf(o.number());
            int part = o.letter() < 0 ? 4 : o.letter();
            BigInteger amount = o.letter() < 0 ? x : BigInteger.ONE;
            if (o.kind() == 0 || o.kind() == 1) {
                BigInteger signed = o.kind() == 0 ? amount : amount.negate();
                parts[part] = Frac.of(parts[part].up().add(signed.multiply(parts[part].low())), parts[part].low());
            } else if (o.kind() == 2 && o.letter() < 0) {
                for (int k = 0; k < 5; k++) {
                    parts[k] = Frac.of(parts[k].up().multiply(x), parts[k].low());
                }
            } else if (o.kind() == 2) {
                for (int k = 0; k < 4; k++) {
                    if (parts[k].up().signum() != 0) {
                        return NO_VALUE;
                    }
                }
                parts[o.letter()] = parts[4];
                parts[4] = Frac.of(0, 1);
            } else if (o.kind() == 3 && o.letter() < 0 && o.number() != 0) {
                for (int k = 0; k < 5; k++) {
                    parts[k] = Frac.of(parts[k].up(), parts[k].low().multiply(x));
                }
            } else if (o.kind() != 9) {
                return NO_VALUE;
            }
            low = BigInteger.ONE;
            for (Frac f : parts) {
                low = low.multiply(f.low()).divide(low.gcd(f.low()));
            }
            if (low.compareTo(LOW_MAX) > 0) {
                return NO_VALUE;
            }
            for (Frac f : parts) {
                if (f.up().multiply(low).divide(f.low()).abs().compareTo(UP_MAX) > 0) {
                    return NO_VALUE;
                }
            }
        }
        return what == 5 ? low.longValueExact()
            : parts[what].up().multiply(low).divide(parts[what].low()).longValueExact();
    }

    int hear(int up, int down) {
        return tell(heard, 6, up, down);
    }

    int fits(int table, int letter, int what) {
        Table t = find(table);
        if (t == null || letter < -1 || letter > 3 || (letter >= 0 && (what < 0 || what > 2))) {
            return -1;
        }
        if (t.all() > 20000) {
            return -2;
        }
        int count = 0;
        TreeSet<Integer> unlike = new TreeSet<>();
        for (int[] by : allOf(t)) {
            List<Frac> values = run(t, by);
            if (ends(t, values) && saidOf(t, values).equals(heard)) {
                count++;
                unlike.add(letter < 0 ? 0 : by[letter]);
            }
        }
        if (letter < 0) {
            return count;
        }
        return count == 0 ? -1 : what == 0 ? unlike.first() : what == 1 ? unlike.last() : unlike.size();
    }

    int more(int table) {
        Table t = find(table);
        if (t == null) {
            return -1;
        }
        if (t.all() > 500) {
            return -2;
        }
        List<List<Frac>> rows = new ArrayList<>();
        for (int[] by : allOf(t)) {
            List<Frac> values = run(t, by);
            if (ends(t, values)) {
                rows.add(values);
            }
        }
        for (int i = 0; i < t.orders().size(); i++) {
            Set<List<Frac>> told = new HashSet<>();
            for (List<Frac> values : rows) {
                List<Frac> known = saidOf(t, values);
                known.add(values.get(i + 1));
                told.add(known);
            }
            if (told.size() == rows.size()) {
                return i;
            }
        }
        return -1;
    }

    int kit(int kind, int x) {
        if (kind == -1) {
            kit.clear();
            return 0;
        }
        if (kind < 0 || kind > 7 || kit.size() == 6 || (kind < 6 && (x < -1 || x > 9999))) {
            return -1;
        }
        kit.add(kind >= 6 ? new Order(kind, 0, -1) : new Order(kind, Math.max(x, 0), x == -1 ? 0 : -1));
        return kit.size();
    }

    int made(int low, int high, int end, int n, int i) {
        if (low < 0 || high < low || high > 9999 || high - low > 99 || end < 0 || end > 9999 || n < 1 || n > 5) {
            return -2;
        }
        for (int length = 0; length <= n; length++) {
            int rows = (int) Math.round(Math.pow(kit.size(), length));
            for (int row = 0; row < rows; row++) {
                List<Integer> numbers = new ArrayList<>();
                List<Order> orders = new ArrayList<>();
                for (int k = 0, left = row; k < length; k++, left /= kit.size()) {
                    numbers.add(0, left % kit.size());
                    orders.add(0, kit.get(left % kit.size()));
                }
                if (makes(orders, low, high, end)) {
                    return i == -1 ? length : i >= 0 && i < length ? numbers.get(i) : -2;
                }
            }
        }
        return -2;
    }

    private static boolean makes(List<Order> orders, int low, int high, int end) {
        for (int a = low; a <= high; a++) {
            List<Frac> values = run(Frac.of(a, 1), orders, new int[] {a, 0, 0, 0});
            if (values.size() <= orders.size() || !values.get(orders.size()).equals(Frac.of(end, 1))) {
                return false;
            }
            for (Frac v : values) {
                if (v.up().signum() < 0 || !v.low().equals(BigInteger.ONE)) {
                    return false;
                }
            }
        }
        return true;
    }

    int slip(int table, int up, int down, int i) {
        Table t = find(table);
        if (t == null || !told(up, down)) {
            return -1;
        }
        List<Integer> found = new ArrayList<>();
        for (int k = 0; k < t.orders().size(); k++) {
            for (int how = 0; how < 3; how++) {
                List<Order> orders = new ArrayList<>(t.orders());
                Order o = orders.remove(k);
                if (how == 1) {
                    orders.add(k, o);
                    orders.add(k, o);
                } else if (how == 2) {
                    if (o.kind() > 3) {
                        continue;
                    }
                    int other = new int[] {1, 0, 3, 2}[o.kind()];
                    orders.add(k, new Order(other, o.number(), o.letter()));
                }
                List<Frac> values = run(begin(t, thought), orders, thought);
                if (values.size() == orders.size() + 1 && values.get(orders.size()).equals(Frac.of(up, down))) {
                    found.add(3 * k + how);
                }
            }
        }
        return i == -1 ? found.size() : i >= 0 && i < found.size() ? found.get(i) : -1;
    }

    int ask(int m) {
        if (m == 0) {
            asks.clear();
            return 0;
        }
        if (m < 2 || m > 30 || asks.size() == 6) {
            return -1;
        }
        asks.add(m);
        return asks.size();
    }

    int known(int n, boolean first) {
        if (n < 1 || n > 24) {
            return -1;
        }
        List<Integer> numbers = new ArrayList<>();
        for (int k = 0; k < n; k++) {
            numbers.add(k);
        }
        for (int depth = 0; depth <= 6; depth++) {
            if (canTell(numbers, depth)) {
                return !first ? depth : firstAsk(numbers, depth);
            }
        }
        return -1;
    }

    private int firstAsk(List<Integer> numbers, int depth) {
        for (int k = 0; k < asks.size(); k++) {
            if (depth > 0 && tellsBy(numbers, depth, asks.get(k))) {
                return k;
            }
        }
        return -1;
    }

    private boolean canTell(List<Integer> numbers, int depth) {
        if (numbers.size() <= 1) {
            return true;
        }
        for (int m : asks) {
            if (depth > 0 && tellsBy(numbers, depth, m)) {
                return true;
            }
        }
        return false;
    }

    private boolean tellsBy(List<Integer> numbers, int depth, int m) {
        for (int rest = 0; rest < m; rest++) {
            int r = rest;
            if (!canTell(numbers.stream().filter(k -> k % m == r).toList(), depth - 1)) {
                return false;
            }
        }
        return true;
    }

    int rest(int m) {
        if (m < 1 || m > 9999 || !tape.toString().matches("[0-9]+")) {
            return -1;
        }
        return new BigInteger(tape.toString()).mod(BigInteger.valueOf(m)).intValue();
    }

    int struck(int m) {
        if (m < 1 || m > 9999 || !tape.toString().matches("[0-9]*\\?[0-9]*")) {
            return -1;
        }
        int bits = 0;
        for (int d = 0; d < 10; d++) {
            BigInteger number = new BigInteger(tape.toString().replace("?", "" + d));
            bits |= number.mod(BigInteger.valueOf(m)).signum() == 0 ? 1 << d : 0;
        }
        return bits;
    }

    int play(int table) {
        Table t = find(table);
        if (t == null) {
            return -1;
        }
        played = table;
        steps = new ArrayList<>(List.of(begin(t, thought)));
        return t.orders().size();
    }

    int go() {
        Table t = find(played);
        int next = steps.size() - 1;
        if (t == null || next >= t.orders().size()) {
            return -1;
        }
        Order o = t.orders().get(next);
        Frac v = obey(steps.get(next), o.kind(), o.x(thought));
        if (v == null) {
            return -1;
        }
        steps.add(v);
        return next;
    }

    int undo() {
        if (steps.size() <= 1) {
            return -1;
        }
        steps.remove(steps.size() - 1);
        return steps.size() - 1;
    }

    long value(boolean low) {
        return steps.isEmpty() ? low ? 1 : 0 : steps.get(steps.size() - 1).part(low);
    }

    int image() {
        kept = snapshot();
        return about(2);
    }

    int back() {
        tables = new ArrayList<>(kept.tables());
        thought = kept.thought().clone();
        claims = new ArrayList<>(kept.claims());
        heard = new ArrayList<>(kept.heard());
        kit = new ArrayList<>(kept.kit());
        asks = new ArrayList<>(kept.asks());
        played = kept.played();
        steps = new ArrayList<>(kept.steps());
        return about(2);
    }

    int about(int what) {
        int[] answers = {tables.size(), played, Math.max(0, steps.size() - 1), Math.max(0, steps.size() - 1),
            claims.size(), heard.size(), kit.size(), asks.size(), tape.length(), -2, thought[0], thought[1],
            thought[2], thought[3]};
        return what < 0 || what >= answers.length ? -2 : answers[what];
    }
}
