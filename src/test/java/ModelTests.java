import java.util.ArrayList;
import java.util.List;

/** Many runs of calls by lots (always the same ones), each asked of HatGoesRound and of Model: they must answer the same. */
public final class ModelTests {
    private static long lot = 1;
    private static int wrong = 0;
    private static long calls = 0;

    private static int upTo(int n) {
        lot = lot * 6364136223846793005L + 1442695040888963407L;
        return (int) ((lot >>> 33) % n);
    }

    private static int from(int least, int most) {
        return least + upTo(most - least + 1);
    }

    /** Mostly a number from least to most, sometimes one beside them or far off. */
    private static int about(int least, int most) {
        switch (upTo(24)) {
            case 0: return least - 1;
            case 1: return most + 1;
            case 2: return least;
            case 3: return most;
            case 4: return upTo(6) > 0 ? from(least, most) : upTo(2) == 0 ? Integer.MIN_VALUE + upTo(3) : Integer.MAX_VALUE - upTo(3);
            default: return from(least, most);
        }
    }

    private final HatGoesRound x = new HatGoesRound();
    private final Model m = new Model();
    private final List<String> told = new ArrayList<>();
    private boolean same = true;

    private void due(String call, long got, long want) {
        told.add(call + " = " + got);
        calls++;
        if (got != want && same) {
            same = false;
            wrong++;
            System.out.println("a run of " + told.size() + " calls answers otherwise than the model (" + want + "):");
            for (String t : told) {
                System.out.println("  " + t);
            }
        }
    }

    private static String said(String name, int... arguments) {
        StringBuilder b = new StringBuilder(name).append('(');
        for (int i = 0; i < arguments.length; i++) {
            b.append(i == 0 ? "" : ", ").append(arguments[i]);
        }
        return b.append(')').toString();
    }

    private static String one(int depth) {
        switch (upTo(depth > 0 ? 9 : 6)) {
            case 0: case 1: return Integer.toString(upTo(new int[] {3, 12, 100, 10000}[upTo(4)]));
            case 6: return "-" + blank() + one(depth - 1);
            case 7: case 8: return "(" + blank() + expression(depth - 1) + blank() + ")";
            default: return Model.NAMES.get(upTo(6));
        }
    }

    private static String term(int depth) {
        return upTo(4) == 0 ? one(depth) + blank() + "*" + blank() + term(depth) : one(depth);
    }

    private static String sum(int depth) {
        return upTo(3) == 0 ? term(depth) + blank() + (upTo(2) == 0 ? "+" : "-") + blank() + sum(depth) : term(depth);
    }

    private static String not(int depth) {
        if (depth > 0 && upTo(6) == 0) {
            return "not " + not(depth - 1);
        }
        return upTo(5) == 0 ? sum(depth) + blank() + (upTo(2) == 0 ? "<" : "=") + blank() + sum(depth) : sum(depth);
    }

    private static String expression(int depth) {
        String e = not(depth);
        for (int i = 0; i < 3 && upTo(6) == 0; i++) {
            e = e + (upTo(2) == 0 ? " or " : " and ") + not(depth);
        }
        return e;
    }

    private static String blank() {
        return upTo(4) > 0 ? "" : upTo(3) > 0 ? " " : "\n";
    }

    private static String aText() {
        int depth = upTo(8);
        return blank() + "takes " + expression(depth) + blank() + ";" + blank() + "sounds " + expression(depth) + ";"
            + blank() + "costs " + expression(depth) + blank() + ";" + blank();
    }

    private static final String[] BITS = {"(", ")", ";", "+", "-", "*", "<", "=", " ", "\n", "not ", " and ", " or ", "5", "12345",
        "pride", "worthy", "takes ", "A", "\u00e9", "\u0000", "\t", "((((((", "------", "not not not not not not ", "-(-(-(-1))"};

    private static String spoilt(String text) {
        StringBuilder b = new StringBuilder(text);
        int place = upTo(b.length() + 1);
        switch (upTo(4)) {
            case 0: b.setLength(place); break;
            case 1: b.delete(place, Math.min(b.length(), place + 1 + upTo(3))); break;
            default: b.insert(place, BITS[upTo(BITS.length)]); break;
        }
        return b.toString();
    }

    private void feed(String text) {
        for (int i = 0; i < text.length(); i += 5) {
            int n = Math.min(5, text.length() - i);
            int[] v = new int[5];
            for (int k = 0; k < 5; k++) {
                v[k] = k < n ? text.charAt(i + k) : upTo(256);
            }
            due(said("feed", n, v[0], v[1], v[2], v[3], v[4]), x.feed(n, v[0], v[1], v[2], v[3], v[4]), m.feed(n, v[0], v[1], v[2], v[3], v[4]));
        }
    }

    private void readText() {
        String text = aText();
        for (int i = 0; i < 30 && text.length() > 160; i++) {
            text = aText();
        }
        if (upTo(3) == 0) {
            text = spoilt(text);
        }
        feed(text);
        due("text()", x.text(), m.text());
        due("count(5)", x.count(5), m.count(5));
        int t = about(0, m.laws.size() - 1);
        due(said("force", t), x.force(t), m.force(t));
    }

    private void person() {
        int kindMore = about(0, 59);
        int proud = about(0, 99);
        due(said("person", kindMore, proud), x.person(kindMore, proud), m.person(kindMore, proud));
    }

    private void fill() {
        int w = about(0, 5);
        int what = upTo(4) == 0 ? 0 : about(0, 1);
        int v = what == 0 ? about(0, 99) : about(0, upTo(3) == 0 ? 20 : 5);
        due(said("fill", w, what, v), x.fill(w, what, v), m.fill(w, what, v));
    }

    private void host() {
        int s = about(0, 3);
        int sort = about(0, 2);
        switch (upTo(6)) {
            case 0: {
                int n = upTo(4) == 0 ? about(0, 40) : about(0, 12);
                int which = about(-1, 2);
                due(said("sheet", s, which, n), x.sheet(s, which, n), m.sheet(s, which, n));
                break;
            }
            case 1:
            case 2: {
                int i = about(0, 11);
                int v = upTo(3) == 0 ? about(0, 6) : upTo(3) > 0 ? about(0, 59) : from(-70000, 70000);
                due(said("cell", s, i, v), x.cell(s, i, v), m.cell(s, i, v));
                break;
            }
            case 3: {
                int i = about(0, 8);
                int other = about(0, 3);
                int j = about(0, 8);
                int n = about(0, 6);
                due(said("copy", s, i, other, j, n), x.copy(s, i, other, j, n), m.copy(s, i, other, j, n));
                break;
            }
            case 4: {
                int place = about(0, 8);
                int n = about(0, 6);
                due(said("pewBy", s, sort, place, n), x.pewBy(s, sort, place, n), m.pewBy(s, sort, place, n));
                break;
            }
            default: {
                int i = about(0, 11);
                int kind = about(0, 6);
                due(said("taken", i, kind), x.taken(i, kind), m.taken(i, kind));
                break;
            }
        }
    }

    private void tellRound() {
        int s = about(0, 3);
        int p = about(0, 5);
        int what = about(0, 1);
        switch (upTo(9)) {
            case 0:
            case 1: {
                int n = upTo(3) == 0 ? about(0, 30) : about(0, 6);
                due(said("film", s, n), x.film(s, n), m.film(s, n));
                break;
            }
            case 2: due(said("judge", s), x.judge(s), m.judge(s)); break;
            case 3: due(said("kinds", s, p, what), x.kinds(s, p, what), m.kinds(s, p, what)); break;
            case 4: due(said("prides", s, p, what), x.prides(s, p, what), m.prides(s, p, what)); break;
            case 5: due(said("hats", s, p, what), x.hats(s, p, what), m.hats(s, p, what)); break;
            case 6: due(said("starts", s), x.starts(s), m.starts(s)); break;
            case 7: due(said("laws", s), x.laws(s), m.laws(s)); break;
            default: {
                int i = about(0, 5);
                int v = about(0, 6);
                due(said("cell", s, i, v), x.cell(s, i, v), m.cell(s, i, v));
                break;
            }
        }
    }

    private void best() {
        int p = about(0, 5);
        int what = about(0, 1);
        switch (upTo(14)) {
            case 0:
            case 1:
            case 2: due(said("first", p, what), x.first(p, what), m.first(p, what)); break;
            case 3:
            case 4:
            case 5: due(said("vicar", p, what), x.vicar(p, what), m.vicar(p, what)); break;
            case 6:
                if (m.now.people.size() < 6 || upTo(6) == 0) {
                    due(said("seating", what), x.seating(what), m.seating(what));
                }
                break;
            case 7:
            case 8:
            case 9: {
                int sum = upTo(3) == 0 ? about(0, 999) : about(0, 60);
                due(said("ways", sum), x.ways(sum), m.ways(sum));
                break;
            }
            case 10:
            case 11: {
                int seed = about(0, 99999);
                int n = about(0, 30);
                due(said("drawn", seed, n, what), x.drawn(seed, n, what), m.drawn(seed, n, what));
                break;
            }
            case 12: {
                int seed = about(0, 99999);
                int seeds = about(1, 40);
                due(said("odds", seed, seeds, p, what), x.odds(seed, seeds, p, what), m.odds(seed, seeds, p, what));
                break;
            }
            default: due(said("share", p, what), x.share(p, what), m.share(p, what)); break;
        }
    }

    private void turns() {
        int p = about(0, 5);
        switch (upTo(8)) {
            case 0:
            case 1:
            case 2: due("pass()", x.pass(), m.pass()); break;
            case 3: due(said("hand", p), x.hand(p), m.hand(p)); break;
            case 4:
            case 5:
            case 6: {
                int n = upTo(3) == 0 ? about(0, 120) : about(0, 15);
                int what = upTo(4) * 10 + about(0, 5);
                due(said("run", n, what), x.run(n, what), m.run(n, what));
                break;
            }
            default: {
                int what = about(0, 2);
                due(said("end", what), x.end(what), m.end(what));
                break;
            }
        }
    }

    private void ask() {
        int p = about(0, 5);
        int w = about(0, 5);
        switch (upTo(9)) {
            case 0: due(said("count", w), x.count(w), m.count(w)); break;
            case 1: {
                int what = about(0, 2);
                due(said("hat", w, what), x.hat(w, what), m.hat(w, what));
                break;
            }
            case 2: {
                int part = about(0, 2);
                int sort = about(-1, 5);
                due(said("asks", part, p, sort), x.asks(part, p, sort), m.asks(part, p, sort));
                break;
            }
            case 3: {
                int what = about(0, 1);
                int v = what == 0 ? about(0, 99) : upTo(2) == 0 ? about(0, 150) : about(9800, 9999);
                due(said("put", p, what, v), x.put(p, what, v), m.put(p, what, v));
                break;
            }
            case 4:
            case 5: {
                int what = about(0, 6);
                due(said("told", p, what), x.told(p, what), m.told(p, what));
                break;
            }
            case 6: {
                int what = about(0, 1);
                due(said("coin", p, w, what), x.coin(p, w, what), m.coin(p, w, what));
                break;
            }
            case 7: {
                int v = about(0, 255);
                int n = about(1, 2);
                if (upTo(4) == 0) {
                    due(said("feed", n, v, 32, 32, 32, 32), x.feed(n, v, 32, 32, 32, 32), m.feed(n, v, 32, 32, 32, 32));
                }
                break;
            }
            default: {
                int t = about(0, m.laws.size() - 1);
                due(said("force", t), x.force(t), m.force(t));
                break;
            }
        }
    }

    private void imageOrBack() {
        if (upTo(3) == 0) {
            due("image()", x.image(), m.image());
        } else {
            due("back()", x.back(), m.back());
        }
    }

    private void all() {
        for (int what = 0; what <= 6; what++) {
            due(said("count", what), x.count(what), m.count(what));
        }
        for (int w = 0; w < 6; w++) {
            due(said("hat", w, 0), x.hat(w, 0), m.hat(w, 0));
            due(said("hat", w, 1), x.hat(w, 1), m.hat(w, 1));
        }
        for (int p = 0; p < 6; p++) {
            for (int what = 0; what <= 6; what++) {
                due(said("told", p, what), x.told(p, what), m.told(p, what));
            }
        }
    }

    private void run() {
        int likely = upTo(3);
        for (int i = upTo(7); i > 0; i--) {
            person();
        }
        for (int i = upTo(8); i > 0; i--) {
            fill();
        }
        while (same && told.size() < 390) {
            switch (upTo(16)) {
                case 0: if (upTo(3) == 0) { readText(); } break;
                case 1: fill(); break;
                case 2: person(); break;
                case 3:
                case 4: host(); break;
                case 5:
                case 6:
                case 7: tellRound(); break;
                case 8:
                case 9: best(); break;
                case 10:
                case 11: if (likely > 0) { turns(); } break;
                case 12: if (upTo(4) == 0) { imageOrBack(); } break;
                default: ask(); break;
            }
        }
        all();
    }

    /** Many TEXTS, good and spoilt, each on a new object: the number or the FAULT. */
    private void faults() {
        while (same && told.size() < 400) {
            String text = aText();
            while (text.length() > 150) {
                text = aText();
            }
            for (int i = upTo(4); i > 0; i--) {
                text = spoilt(text);
            }
            feed(text.substring(0, Math.min(160, text.length())));
            due("text()", x.text(), m.text());
        }
    }

    public static void main(String[] args) {
        for (int i = 0; i < 1500 && wrong < 3; i++) {
            new ModelTests().run();
        }
        for (int i = 0; i < 1500 && wrong < 3; i++) {
            new ModelTests().faults();
        }
        System.out.println("ModelTests: " + calls + " calls, " + wrong + " runs otherwise than the model");
        if (wrong != 0) {
            System.exit(1);
        }
    }
}
