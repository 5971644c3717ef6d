import java.util.ArrayList;
import java.util.List;
import java.util.Map;
import java.util.TreeMap;
import java.util.function.Consumer;
import java.util.function.IntBinaryOperator;
import java.util.function.ToIntFunction;

/**
 * The document once more, read by itself and written with the whole Java library: trees, exceptions, real rows.
 * ModelTests asks it and HatGoesRound the same.
 */
final class Model {
    static final long NO = -4611686018427387904L;

    // ---- texts

    record Env(int pride, int worth, int coins, int purse, int turns, int more) { }

    interface Expr extends ToIntFunction<Env> { }

    record Law(Expr takes, Expr sounds, Expr costs) {
        int says(int part, Env env) {
            int v = (part == 0 ? takes : part == 1 ? sounds : costs).applyAsInt(env);
            int least = part == 2 ? -99 : 0;
            return v < least ? least : v > 99 ? 99 : v;
        }
    }

    static final class Fault extends RuntimeException {
        private static final long serialVersionUID = 1;
        final int place;

        Fault(int place) {
            super(null, null, false, false);
            this.place = place;
        }
    }

    record Token(String text, int place, boolean good) { }

    static final List<String> KEYS = List.of("takes", "sounds", "costs", "or", "and", "not");
    static final List<String> NAMES = List.of("pride", "worth", "coins", "purse", "turns", "more");

    static List<Token> tokens(String tape) {
        List<Token> list = new ArrayList<>();
        java.util.regex.Matcher m = java.util.regex.Pattern.compile("[a-z]+|[0-9]+|[^ \\n]", java.util.regex.Pattern.DOTALL).matcher(tape);
        while (m.find()) {
            String t = m.group();
            boolean good;
            if (t.matches("[a-z]+")) {
                good = KEYS.contains(t) || NAMES.contains(t);
            } else if (t.matches("[0-9]+")) {
                good = t.length() <= 4;
            } else {
                good = "();+-*<=".contains(t);
            }
            list.add(new Token(t, m.start(), good));
        }
        list.add(new Token("", tape.length(), true));
        return list;
    }

    static final class Parser {
        final List<Token> list;
        int at = 0;
        int open = 0;

        Parser(String tape) {
            list = tokens(tape);
        }

        boolean sees(String text) {
            Token t = list.get(at);
            return t.good() && t.text().equals(text);
        }

        Fault fault() {
            return new Fault(list.get(at).place());
        }

        void must(String text) {
            if (!sees(text)) {
                throw fault();
            }
            at++;
        }

        void opens() {
            if (open == 5) {
                throw fault();
            }
            open++;
            at++;
        }

        Law law() {
            must("takes");
            Expr takes = or();
            must(";");
            must("sounds");
            Expr sounds = or();
            must(";");
            must("costs");
            Expr costs = or();
            must(";");
            must("");
            return new Law(takes, sounds, costs);
        }

        static Expr join(Expr a, Expr b, IntBinaryOperator how) {
            return e -> how.applyAsInt(a.applyAsInt(e), b.applyAsInt(e));
        }

        Expr or() {
            Expr a = and();
            while (sees("or")) {
                at++;
                a = join(a, and(), (x, y) -> (x != 0) | (y != 0) ? 1 : 0);
            }
            return a;
        }

        Expr and() {
            Expr a = not();
            while (sees("and")) {
                at++;
                a = join(a, not(), (x, y) -> (x != 0) & (y != 0) ? 1 : 0);
            }
            return a;
        }

        Expr not() {
            if (sees("not")) {
                opens();
                Expr a = not();
                open--;
                return e -> a.applyAsInt(e) == 0 ? 1 : 0;
            }
            Expr a = sum();
            if (sees("<")) {
                at++;
                return join(a, sum(), (x, y) -> x < y ? 1 : 0);
            }
            if (sees("=")) {
                at++;
                return join(a, sum(), (x, y) -> x == y ? 1 : 0);
            }
            return a;
        }

        Expr sum() {
            Expr a = term();
            while (true) {
                if (sees("+")) {
                    at++;
                    a = join(a, term(), (x, y) -> x + y);
                } else if (sees("-")) {
                    at++;
                    a = join(a, term(), (x, y) -> x - y);
                } else {
                    return a;
                }
            }
        }

        Expr term() {
            Expr a = one();
            while (sees("*")) {
                at++;
                a = join(a, one(), (x, y) -> x * y);
            }
            return a;
        }

        Expr one() {
            Token t = list.get(at);
            if (!t.good() || t.text().isEmpty()) {
                throw fault();
            }
            if (sees("-")) {
                opens();
                Expr a = one();
                open--;
                return e -> -a.applyAsInt(e);
            }
            if (sees("(")) {
                opens();
                Expr a = or();
                must(")");
                open--;
                return a;
            }
            if (Character.isDigit(t.text().charAt(0))) {
                at++;
                int n = Integer.parseInt(t.text());
                return e -> n;
            }
            if (!NAMES.contains(t.text())) {
                throw fault();
            }
            at++;
            switch (t.text()) {
                case "pride": return Env::pride;
                case "worth": return Env::worth;
                case "coins": return Env::coins;
                case "purse": return Env::purse;
                case "turns": return Env::turns;
                default: return Env::more;
            }
        }
    }

    // ---- people

    static class Person {
        int more;
        int pride;
        int purse;
        int loud;

        int takes(Round r) {
            return r.says(0, this, -1);
        }

        int sounds(Round r, int w) {
            return r.says(1, this, w);
        }

        int costs(Round r, int w) {
            return r.says(2, this, w);
        }
    }

    static class Rich extends Person {
        @Override int takes(Round r) {
            return super.takes(r) / 4;
        }

        @Override int sounds(Round r, int w) {
            return super.sounds(r, w) + more;
        }
    }

    static class Poor extends Person {
        @Override int takes(Round r) {
            return super.takes(r) + 5 * more;
        }

        @Override int costs(Round r, int w) {
            return 2 * super.costs(r, w);
        }
    }

    static final class Stirring extends Rich {
        @Override int sounds(Round r, int w) {
            return 3 * super.sounds(r, w);
        }

        @Override int takes(Round r) {
            return (r.turns & 1) == 0 ? more : super.takes(r);
        }
    }

    static final class Widow extends Poor {
        @Override int sounds(Round r, int w) {
            return 0;
        }

        @Override int costs(Round r, int w) {
            return super.costs(r, w) - more;
        }
    }

    static final class Child extends Person {
        @Override int takes(Round r) {
            return 99;
        }

        @Override int costs(Round r, int w) {
            return 0;
        }
    }

    static final List<Class<?>> KINDS =
        List.of(Person.class, Rich.class, Poor.class, Stirring.class, Widow.class, Child.class);

    static int kindOf(Person p) {
        return KINDS.indexOf(p.getClass());
    }

    static Person make(int kind, int more, int pride, int purse, int loud) {
        Person p;
        switch (kind) {
            case 0: p = new Person(); break;
            case 1: p = new Rich(); break;
            case 2: p = new Poor(); break;
            case 3: p = new Stirring(); break;
            case 4: p = new Widow(); break;
            default: p = new Child(); break;
        }
        p.more = more;
        p.pride = pride;
        p.purse = purse;
        p.loud = loud;
        return p;
    }

    // ---- rounds

    static final class Round {
        final List<Law> laws;
        int[] worth = {1, 2, 4, 8, 16, 32};
        int[] left = new int[6];
        List<Person> people = new ArrayList<>();
        int turn;
        int turns;
        int law;

        Round(List<Law> laws) {
            this.laws = laws;
        }

        Round copy() {
            Round r = new Round(laws);
            r.worth = worth.clone();
            r.left = left.clone();
            for (Person p : people) {
                r.people.add(make(kindOf(p), p.more, p.pride, p.purse, p.loud));
            }
            r.turn = turn;
            r.turns = turns;
            r.law = law;
            return r;
        }

        int coins() {
            int sum = 0;
            for (int n : left) {
                sum += n;
            }
            return sum;
        }

        int value() {
            int sum = 0;
            for (int w = 0; w < 6; w++) {
                sum += left[w] * worth[w];
            }
            return sum;
        }

        int says(int part, Person p, int w) {
            return laws.get(law).says(part,
                new Env(p.pride, w < 0 ? 0 : worth[w], coins(), Math.min(99, p.purse), turns, p.more));
        }

        int coinOf(Person p) {
            int takes = p.takes(this);
            for (int v = Math.min(99, takes); v >= 0; v--) {
                for (int w = 0; w < 6; w++) {
                    if (left[w] > 0 && worth[w] == v) {
                        return w;
                    }
                }
            }
            for (int v = 0; v <= 99; v++) {
                for (int w = 0; w < 6; w++) {
                    if (left[w] > 0 && worth[w] == v) {
                        return w;
                    }
                }
            }
            return -1;
        }

        int takeOut(Person p) {
            int w = coinOf(p);
            if (w != -1) {
                int sound = p.sounds(this, w);
                int cost = p.costs(this, w);
                left[w] -= 1;
                p.purse += worth[w];
                if (p.purse > 9999) {
                    p.purse = 9999;
                }
                if (sound > p.loud) {
                    p.loud = sound;
                }
                p.pride -= cost;
                if (p.pride < 0) {
                    p.pride = 0;
                }
                if (p.pride > 99) {
                    p.pride = 99;
                }
            }
            if (turns < 999) {
                turns++;
            }
            return w;
        }

        int turn() {
            if (people.isEmpty()) {
                return -1;
            }
            int w = takeOut(people.get(turn));
            turn = (turn + 1) % people.size();
            return w;
        }

        int tillEmpty() {
            int last = -1;
            while (coins() > 0 && !people.isEmpty()) {
                last = turn;
                turn();
            }
            return last;
        }

        int firstMost(ToIntFunction<Person> of) {
            int best = -1;
            for (int p = 0; p < people.size(); p++) {
                if (best == -1 || of.applyAsInt(people.get(p)) > of.applyAsInt(people.get(best))) {
                    best = p;
                }
            }
            return best;
        }
    }

    final List<Law> laws = new ArrayList<>();
    final StringBuilder tape = new StringBuilder();
    Round now = new Round(laws);
    Round image = null;
    final Object[] sheets = new Object[4];

    Model() {
        laws.add(new Parser("takes pride ; sounds worth ; costs 1 ;").law());
    }

    boolean sort(int w) {
        return 0 <= w && w <= 5;
    }

    boolean there(int p) {
        return 0 <= p && p < now.people.size();
    }

    boolean within(int v, int least, int most) {
        return least <= v && v <= most;
    }

    int count(int what) {
        switch (what) {
            case 0: return now.people.size();
            case 1: return now.coins();
            case 2: return now.turns;
            case 3: return laws.size();
            case 4: return now.law;
            case 5: return tape.length();
            case 6: return now.turn;
            default: return -2;
        }
    }

    int fill(int w, int what, int v) {
        if (!sort(w)) {
            return -5;
        }
        if (what == 0 && within(v, 0, 99)) {
            int was = now.worth[w];
            now.worth[w] = v;
            return was;
        }
        if (what == 1 && within(v, 0, 20)) {
            int was = now.left[w];
            now.left[w] = v;
            return was;
        }
        return -7;
    }

    int hat(int w, int what) {
        if (what == 2) {
            return now.value();
        }
        return !sort(w) ? -5 : what == 0 ? now.worth[w] : what == 1 ? now.left[w] : -7;
    }

    int feed(int n, int a, int b, int c, int d, int e) {
        int[] all = {a, b, c, d, e};
        for (int v : all) {
            if (!within(v, 0, 255)) {
                return -2;
            }
        }
        if (!within(n, 1, 5)) {
            return -2;
        }
        if (tape.length() + n > 160) {
            return -4;
        }
        for (int i = 0; i < n; i++) {
            tape.append((char) all[i]);
        }
        return tape.length();
    }

    int text() {
        if (laws.size() == 6) {
            return -4;
        }
        String all = tape.toString();
        tape.setLength(0);
        try {
            laws.add(new Parser(all).law());
            return laws.size() - 1;
        } catch (Fault f) {
            return -100 - f.place;
        }
    }

    int force(int t) {
        if (!within(t, 0, laws.size() - 1)) {
            return -2;
        }
        int was = now.law;
        now.law = t;
        return was;
    }

    int asks(int part, int p, int w) {
        return !within(part, 0, 2) || !there(p) || !within(w, -1, 5) ? -1000 : now.says(part, now.people.get(p), w);
    }

    int person(int kindMore, int proud) {
        if (!within(kindMore, 0, 59) || !within(proud, 0, 99)) {
            return -2;
        }
        if (now.people.size() == 6) {
            return -4;
        }
        now.people.add(make(kindMore / 10, kindMore % 10, proud, 0, 0));
        return now.people.size() - 1;
    }

    int put(int p, int what, int v) {
        if (!there(p)) {
            return -5;
        }
        Person one = now.people.get(p);
        if (what == 0 && within(v, 0, 99)) {
            int was = one.pride;
            one.pride = v;
            return was;
        }
        if (what == 1 && within(v, 0, 9999)) {
            int was = one.purse;
            one.purse = v;
            return was;
        }
        return -7;
    }

    int told(int p, int what) {
        if (!there(p)) {
            return -5;
        }
        Person one = now.people.get(p);
        switch (what) {
            case 0: return one.pride;
            case 1: return one.purse;
            case 2: return one.loud;
            case 3: return kindOf(one);
            case 4: return one.more;
            case 5: return one.takes(now);
            case 6: return now.coinOf(one);
            default: return -7;
        }
    }

    int coin(int p, int w, int what) {
        if (!there(p)) {
            return -5;
        }
        if (!sort(w)) {
            return -6;
        }
        Person one = now.people.get(p);
        return what == 0 ? one.sounds(now, w) : what == 1 ? 1000 + one.costs(now, w) : -7;
    }

    int pass() {
        return now.people.isEmpty() || now.coins() == 0 ? -3 : now.turn();
    }

    int hand(int p) {
        if (!there(p)) {
            return -5;
        }
        int was = now.turn;
        now.turn = p;
        return was;
    }

    int run(int n, int what) {
        int size = now.people.size();
        boolean known = within(what, 0, 2) || within(what, 10, 9 + size) || within(what, 20, 19 + size)
            || within(what, 30, 29 + size);
        if (!within(n, 0, 120) || !known) {
            return -2;
        }
        Round r = now.copy();
        for (int i = 0; i < n && r.coins() > 0; i++) {
            r.turn();
        }
        if (what == 0) {
            return r.coins();
        }
        if (what == 1) {
            return r.value();
        }
        if (what == 2) {
            return r.turn;
        }
        if (what < 20) {
            return r.people.get(what - 10).purse;
        }
        return what < 30 ? r.people.get(what - 20).pride : r.people.get(what - 30).loud;
    }

    int end(int what) {
        if (!within(what, 0, 2)) {
            return -2;
        }
        Round r = now.copy();
        int last = r.tillEmpty();
        return what == 0 ? last : what == 1 ? r.firstMost(p -> p.purse) : r.firstMost(p -> p.loud);
    }

    int first(int p, int what) {
        if (!there(p)) {
            return -5;
        }
        if (!within(what, 0, 1)) {
            return -7;
        }
        TreeMap<Integer, Integer> whoBy = new TreeMap<>();
        for (int q = now.people.size() - 1; q >= 0; q--) {
            Round r = now.copy();
            r.turn = q;
            r.tillEmpty();
            whoBy.put(r.people.get(p).purse, q);
        }
        return what == 0 ? whoBy.lastEntry().getValue() : whoBy.lastKey();
    }

    int vicar(int p, int what) {
        if (!there(p)) {
            return -5;
        }
        if (!within(what, 0, 1)) {
            return -7;
        }
        for (int w = 0; w < 6; w++) {
            Round r = now.copy();
            if (++r.left[w] <= 20 && r.tillEmpty() == p) {
                return what == 0 ? w : r.turn;
            }
        }
        return -1;
    }

    private void orders(String digits, Consumer<String> each) {
        if (digits.length() == now.people.size()) {
            each.accept(digits);
            return;
        }
        for (char c = '1'; c < '1' + now.people.size(); c++) {
            if (digits.indexOf(c) < 0) {
                orders(digits + c, each);
            }
        }
    }

    int seating(int what) {
        if (!within(what, 0, 1)) {
            return -2;
        }
        if (now.people.isEmpty()) {
            return 0;
        }
        int[] best = {0, Integer.MAX_VALUE};
        orders("", digits -> {
            Round r = now.copy();
            int i = 0;
            while (r.coins() > 0) {
                r.takeOut(r.people.get(digits.charAt(i % digits.length()) - '1'));
                i++;
            }
            int most = r.people.stream().mapToInt(p -> p.purse).max().getAsInt();
            int least = r.people.stream().mapToInt(p -> p.purse).min().getAsInt();
            if (most - least < best[1]) {
                best[0] = Integer.parseInt(digits);
                best[1] = most - least;
            }
        });
        return best[what];
    }

    int ways(int sum) {
        if (!within(sum, 0, 999)) {
            return -2;
        }
        Map<Integer, Integer> by = new TreeMap<>();
        by.put(0, 1);
        for (int w = 0; w < 6; w++) {
            Map<Integer, Integer> next = new TreeMap<>();
            for (Map.Entry<Integer, Integer> e : by.entrySet()) {
                for (int n = 0; n <= now.left[w]; n++) {
                    next.merge(e.getKey() + n * now.worth[w], e.getValue(), Integer::sum);
                }
            }
            by = next;
        }
        return by.getOrDefault(sum, 0);
    }

    static long lowest(long above, long below, int part) {
        long g = java.math.BigInteger.valueOf(above).gcd(java.math.BigInteger.valueOf(below)).longValue();
        return part == 0 ? above / g : below / g;
    }

    long share(int p, int part) {
        if (!there(p) || !within(part, 0, 1)) {
            return NO;
        }
        int all = now.value() + now.people.stream().mapToInt(q -> q.purse).sum();
        return all == 0 ? NO : lowest(now.people.get(p).purse, all, part);
    }

    // ---- told rounds

    int size(Object row) {
        return java.lang.reflect.Array.getLength(row);
    }

    int number(Object row, int i) {
        return java.lang.reflect.Array.getInt(row, i);
    }

    int cantTell(int s) {
        return !within(s, 0, 3) ? -2 : sheets[s] == null ? -11 : size(sheets[s]) > 30 ? -2 : 0;
    }

    int judged(int s, Round r) {
        for (int i = 0; i < size(sheets[s]); i++) {
            if (r.turn() != number(sheets[s], i) - 1) {
                return i;
            }
        }
        return -1;
    }

    int judge(int s) {
        int no = cantTell(s);
        return no != 0 ? no : judged(s, now.copy());
    }

    List<Integer> fitting(int s, int many, java.util.function.ObjIntConsumer<Round> change) {
        List<Integer> fit = new ArrayList<>();
        for (int v = 0; v < many; v++) {
            Round r = now.copy();
            change.accept(r, v);
            if (judged(s, r) == -1) {
                fit.add(v);
            }
        }
        return fit;
    }

    int bits(List<Integer> fit) {
        return fit.stream().mapToInt(v -> 1 << v).sum();
    }

    int manyOrLeast(List<Integer> fit, int what) {
        return what == 0 ? fit.size() : fit.isEmpty() ? -1 : fit.get(0);
    }

    int kinds(int s, int p, int sort) {
        int no = cantTell(s);
        if (no != 0) {
            return no;
        }
        if (!there(p)) {
            return -5;
        }
        if (!within(sort, 0, 1)) {
            return -7;
        }
        return bits(fitting(s, sort == 0 ? 6 : 10, (r, v) -> {
            Person q = r.people.get(p);
            r.people.set(p, make(sort == 0 ? v : kindOf(q), sort == 0 ? q.more : v, q.pride, q.purse, q.loud));
        }));
    }

    int prides(int s, int p, int what) {
        int no = cantTell(s);
        if (no != 0) {
            return no;
        }
        if (!there(p)) {
            return -5;
        }
        return !within(what, 0, 1) ? -7 : manyOrLeast(fitting(s, 100, (r, v) -> r.people.get(p).pride = v), what);
    }

    int hats(int s, int w, int what) {
        int no = cantTell(s);
        if (no != 0) {
            return no;
        }
        if (!sort(w)) {
            return -5;
        }
        return !within(what, 0, 1) ? -7 : manyOrLeast(fitting(s, 21, (r, v) -> r.left[w] = v), what);
    }

    int starts(int s) {
        int no = cantTell(s);
        return no != 0 ? no : bits(fitting(s, now.people.size(), (r, v) -> r.turn = v));
    }

    int laws(int s) {
        int no = cantTell(s);
        return no != 0 ? no : bits(fitting(s, laws.size(), (r, v) -> r.law = v));
    }

    int film(int s, int n) {
        if (!within(s, 0, 3)) {
            return -2;
        }
        if (!within(n, 0, 30)) {
            return -7;
        }
        byte[] row = new byte[n];
        Round r = now.copy();
        for (int i = 0; i < n; i++) {
            row[i] = (byte) (r.turn() + 1);
        }
        sheets[s] = row;
        return n;
    }

    // ---- hats by lots

    Round bySeed(int seed, int n) {
        Round r = now.copy();
        java.math.BigInteger lot = java.math.BigInteger.valueOf(seed + 1);
        for (int i = 0; i < n; i++) {
            lot = lot.multiply(java.math.BigInteger.valueOf(48271)).mod(java.math.BigInteger.valueOf(2147483647));
            int w = lot.mod(java.math.BigInteger.valueOf(6)).intValue();
            if (r.left[w] < 20) {
                r.left[w]++;
            }
        }
        return r;
    }

    int drawn(int seed, int n, int what) {
        if (!within(seed, 0, 99999) || !within(n, 0, 30) || !within(what, 0, 1)) {
            return -2;
        }
        Round r = bySeed(seed, n);
        int last = r.tillEmpty();
        return what == 1 ? last : r.people.stream().mapToInt(p -> p.purse).max().orElse(0);
    }

    long odds(int seed, int seeds, int p, int part) {
        if (!within(seed, 0, 99999) || !within(seeds, 1, 40) || !there(p) || !within(part, 0, 1)) {
            return NO;
        }
        int times = 0;
        for (int i = 0; i < seeds; i++) {
            if (bySeed(seed + i, 10).tillEmpty() == p) {
                times++;
            }
        }
        return lowest(times, seeds, part);
    }

    int image() {
        image = now.copy();
        return image.people.size();
    }

    int back() {
        if (image == null) {
            return -3;
        }
        now = image.copy();
        return now.people.size();
    }

    // ---- the host: rows, and what the machine says of them

    int sheet(int s, int sort, int n) {
        if (!within(s, 0, 3) || !within(sort, -1, 2) || (sort >= 0 && n > 40)) {
            return -2;
        }
        try {
            sheets[s] = sort == 0 ? new byte[n] : sort == 1 ? new short[n] : sort == 2 ? new int[n] : null;
            return 1;
        } catch (NegativeArraySizeException e) {
            return -14;
        }
    }

    int cell(int s, int i, int v) {
        if (!within(s, 0, 3)) {
            return -2;
        }
        try {
            Object row = sheets[s];
            if (row instanceof byte[]) {
                ((byte[]) row)[i] = (byte) v;
            } else if (row instanceof short[]) {
                ((short[]) row)[i] = (short) v;
            } else {
                ((int[]) row)[i] = v;
            }
            return 1;
        } catch (NullPointerException e) {
            return -11;
        } catch (ArrayIndexOutOfBoundsException e) {
            return -12;
        }
    }

    int copy(int s, int i, int other, int j, int n) {
        if (!within(s, 0, 3) || !within(other, 0, 3)) {
            return -2;
        }
        try {
            System.arraycopy(sheets[s], i, sheets[other], j, n);
            return n;
        } catch (NullPointerException e) {
            return -11;
        } catch (ArrayStoreException e) {
            return -13;
        } catch (IndexOutOfBoundsException e) {
            return -12;
        }
    }

    int pewBy(int s, int sort, int from, int n) {
        if (!within(s, 0, 3) || !within(sort, 0, 2) || !within(n, 0, 6)) {
            return -2;
        }
        Object row = sheets[s];
        if (row == null) {
            return -11;
        }
        if (!(sort == 0 ? row instanceof byte[] : sort == 1 ? row instanceof short[] : row instanceof int[])) {
            return -13;
        }
        int came = 0;
        try {
            for (int k = 0; k < n; k++) {
                int kindMore = number(row, from + 2 * k);
                int proud = number(row, from + 2 * k + 1);
                if (person(kindMore, proud) >= 0) {
                    came++;
                }
            }
        } catch (ArrayIndexOutOfBoundsException e) {
            return -12;
        }
        return came;
    }

    int taken(int i, int kind) {
        if (!within(kind, 0, 6)) {
            return -2;
        }
        if (!within(i, 0, 11)) {
            return -12;
        }
        if (i >= 6) {
            return kind == 6 ? now.left[i - 6] : -13;
        }
        if (!there(i)) {
            return -11;
        }
        return kind < 6 && KINDS.get(kind).isInstance(now.people.get(i)) ? i : -13;
    }
}
