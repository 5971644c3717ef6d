/** A hat of coins goes along a pew until it is empty; ../shared/DOC.md says what each call answers. */
public final class HatGoesRound {
    public static final int NONE = -1, BAD = -2, STATE = -3, FULL = -4;
    public static final long NO = -4611686018427387904L;

    private static final int NOT_THERE = -5, NO_SORT = -6, NO_WHAT = -7, NOT_SAID = -1000, FAULT_AT_0 = -100;
    private static final int MISSING = -11, OUTSIDE = -12, UNLIKE = -13, BELOW_0 = -14;

    private static final int SORTS = 6, MOST_PEOPLE = 6, MOST_TEXTS = 6, KINDS = 6, MORES = 10;
    private static final int MOST_WORTH = 99, MOST_OF_SORT = 20, MOST_COINS = 120, MOST_TURNS = 999;
    private static final int MOST_PRIDE = 99, MOST_PURSE = 9999, MOST_SAID = 99;
    private static final int MOST_SUM = 999, MOST_ORDERS = 720, MOST_RUN = 120;
    private static final int MOST_SEED = 99999, MOST_DRAWN = 30, MOST_SEEDS = 40, ODDS_COINS = 10;
    private static final int TAPE_SIZE = 160, SHEETS = 4, SHEET_SIZE = 40, MOST_TOLD = 30;

    private static final int PERSON = 0, RICH = 1, POOR = 2, STIRRING = 3, WIDOW = 4, CHILD = 5, COIN_KIND = 6;
    private static final int TAKES_PART = 0, SOUNDS_PART = 1, COSTS_PART = 2, PARTS = 3;

    // What a TEXT is kept as: from 0 on a number, below 0 one of these.
    private static final int PRIDE = -1, WORTH = -2, COINS = -3, PURSE = -4, TURNS = -5, MORE = -6;
    private static final int OR = -7, AND = -8, NOT = -9, LESS = -10, SAME = -11;
    private static final int PLUS = -12, MINUS = -13, TIMES = -14, NEGATE = -15;
    // TOKENS that are no part of what is kept.
    private static final int OPEN = -16, CLOSE = -17, SEMICOLON = -18, NUMBER = -19, END = -20, BROKEN = -21;
    private static final int TAKES = -22, SOUNDS = -23, COSTS = -24;

    private final Texts texts;
    private final Tape tape;
    private final Round now;
    private final Round thought;
    private final Round kept;
    private boolean imaged;
    private final Sheets sheets;
    private final int[] made;
    private final int[] order;

    public HatGoesRound() {
        texts = new Texts();
        tape = new Tape();
        now = new Round(texts);
        thought = new Round(texts);
        kept = new Round(texts);
        imaged = false;
        sheets = new Sheets();
        made = new int[MOST_SUM + 1];
        order = new int[MOST_PEOPLE];
    }

    // ---- the hat, the law, people

    public int count(int what) {
        switch (what) {
            case 0: return now.people;
            case 1: return now.coins;
            case 2: return now.turns;
            case 3: return texts.size;
            case 4: return now.law;
            case 5: return tape.size;
            case 6: return now.turn;
            default: return BAD;
        }
    }

    public int fill(int w, int what, int v) {
        if (!isSort(w)) {
            return NOT_THERE;
        }
        if (what < 0 || what > 1 || v < 0 || v > (what == 0 ? MOST_WORTH : MOST_OF_SORT)) {
            return NO_WHAT;
        }
        int was = what == 0 ? now.worth[w] : now.inHat[w];
        if (what == 0) {
            now.worth[w] = v;
        } else {
            now.setInHat(w, v);
        }
        return was;
    }

    public int hat(int w, int what) {
        if (what == 2) {
            return now.worthOfAll();
        }
        if (!isSort(w)) {
            return NOT_THERE;
        }
        if (what < 0 || what > 1) {
            return NO_WHAT;
        }
        return what == 0 ? now.worth[w] : now.inHat[w];
    }

    public int feed(int n, int a, int b, int c, int d, int e) {
        if (n < 1 || n > 5 || !isByte(a) || !isByte(b) || !isByte(c) || !isByte(d) || !isByte(e)) {
            return BAD;
        }
        if (tape.size + n > TAPE_SIZE) {
            return FULL;
        }
        tape.add(a);
        if (n > 1) {
            tape.add(b);
        }
        if (n > 2) {
            tape.add(c);
        }
        if (n > 3) {
            tape.add(d);
        }
        if (n > 4) {
            tape.add(e);
        }
        return tape.size;
    }

    public int text() {
        int number = texts.size;
        if (number < 0 || number >= MOST_TEXTS) {
            return FULL;
        }
        int fault = tape.read(texts.codes[number], texts.ends[number]);
        tape.size = 0;
        if (fault >= 0) {
            return FAULT_AT_0 - fault;
        }
        texts.size = number + 1;
        return number;
    }

    public int force(int t) {
        if (t < 0 || t >= texts.size) {
            return BAD;
        }
        int was = now.law;
        now.law = t;
        return was;
    }

    public int asks(int part, int p, int w) {
        if (part < 0 || part >= PARTS || !isThere(p) || (w != -1 && !isSort(w))) {
            return NOT_SAID;
        }
        return now.says(part, p, w);
    }

    public int person(int kindMore, int proud) {
        if (kindMore < 0 || kindMore >= KINDS * MORES || proud < 0 || proud > MOST_PRIDE) {
            return BAD;
        }
        return now.comes(kindMore, proud);
    }

    public int put(int p, int what, int v) {
        if (!isThere(p)) {
            return NOT_THERE;
        }
        if (what < 0 || what > 1 || v < 0 || v > (what == 0 ? MOST_PRIDE : MOST_PURSE)) {
            return NO_WHAT;
        }
        int[] row = what == 0 ? now.pride : now.purse;
        int was = row[p];
        row[p] = v;
        return was;
    }

    public int told(int p, int what) {
        if (!isThere(p)) {
            return NOT_THERE;
        }
        switch (what) {
            case 0: return now.pride[p];
            case 1: return now.purse[p];
            case 2: return now.loud[p];
            case 3: return now.kind[p];
            case 4: return now.more[p];
            case 5: return now.takes(p);
            case 6: return now.coinUpTo(now.takes(p));
            default: return NO_WHAT;
        }
    }

    public int coin(int p, int w, int what) {
        if (!isThere(p)) {
            return NOT_THERE;
        }
        if (!isSort(w)) {
            return NO_SORT;
        }
        if (what < 0 || what > 1) {
            return NO_WHAT;
        }
        return what == 0 ? now.sounds(p, w) : 1000 + now.costs(p, w);
    }

    // ---- turns

    public int pass() {
        if (now.people == 0 || now.coins == 0) {
            return STATE;
        }
        return now.goOn();
    }

    public int hand(int p) {
        if (!isThere(p)) {
            return NOT_THERE;
        }
        int was = now.turn;
        now.turn = p;
        return was;
    }

    public int run(int n, int what) {
        if (n < 0 || n > MOST_RUN || !isAskedOfRun(what)) {
            return BAD;
        }
        thought.become(now);
        thought.goWhileCoins(n);
        switch (what) {
            case 0: return thought.coins;
            case 1: return thought.worthOfAll();
            case 2: return thought.turn;
            default: break;
        }
        int p = what % 10;
        switch (what / 10) {
            case 1: return thought.purse[p];
            case 2: return thought.pride[p];
            default: return thought.loud[p];
        }
    }

    private boolean isAskedOfRun(int what) {
        return (what >= 0 && what <= 2) || (what >= 10 && what < 40 && isThere(what % 10));
    }

    public int end(int what) {
        if (what < 0 || what > 2) {
            return BAD;
        }
        thought.become(now);
        int last = thought.goWhileCoins(MOST_COINS);
        switch (what) {
            case 0: return last;
            case 1: return firstMost(thought.purse, thought.people);
            default: return firstMost(thought.loud, thought.people);
        }
    }

    private static int firstMost(int[] row, int size) {
        int best = -1;
        for (int i = 0; i < size && i < row.length; i++) {
            if (best < 0 || row[i] > row[best]) {
                best = i;
            }
        }
        return best;
    }

    // ---- what is best

    public int first(int p, int what) {
        if (!isThere(p)) {
            return NOT_THERE;
        }
        if (what < 0 || what > 1) {
            return NO_WHAT;
        }
        int who = -1;
        int most = -1;
        for (int q = 0; q < now.people; q++) {
            thought.become(now);
            thought.turn = q;
            thought.goWhileCoins(MOST_COINS);
            if (thought.purse[p] > most) {
                who = q;
                most = thought.purse[p];
            }
        }
        return what == 0 ? who : most;
    }

    public int vicar(int p, int what) {
        if (!isThere(p)) {
            return NOT_THERE;
        }
        if (what < 0 || what > 1) {
            return NO_WHAT;
        }
        for (int w = 0; w < SORTS; w++) {
            if (now.inHat[w] < MOST_OF_SORT) {
                thought.become(now);
                thought.setInHat(w, now.inHat[w] + 1);
                if (thought.goWhileCoins(MOST_COINS) == p) {
                    return what == 0 ? w : thought.turn;
                }
            }
        }
        return -1;
    }

    public int seating(int what) {
        if (what < 0 || what > 1) {
            return BAD;
        }
        if (now.people == 0) {
            return 0;
        }
        for (int i = 0; i < MOST_PEOPLE; i++) {
            order[i] = i;
        }
        int least = MOST_PURSE + 1;
        int digits = 0;
        boolean further = true;
        // behind a difference of 0 no later order can be better
        for (int i = 0; i < MOST_ORDERS && further && least > 0; i++) {
            int differ = differByOrder();
            if (differ < least) {
                least = differ;
                digits = digitsOfOrder();
            }
            further = nextOrder();
        }
        return what == 0 ? digits : least;
    }

    private int differByOrder() {
        thought.become(now);
        int people = thought.people;
        int seat = 0;
        for (int i = 0; i < MOST_COINS && thought.coins > 0; i++) {
            thought.take(order[seat]);
            seat = seat + 1 < people ? seat + 1 : 0;
        }
        int most = thought.purse[0];
        int least = most;
        for (int p = 1; p < people; p++) {
            most = Math.max(most, thought.purse[p]);
            least = Math.min(least, thought.purse[p]);
        }
        return most - least;
    }

    private int digitsOfOrder() {
        int digits = 0;
        for (int i = 0; i < now.people; i++) {
            digits = digits * 10 + order[i] + 1;
        }
        return digits;
    }

    private boolean nextOrder() {
        int people = now.people;
        int left = people - 2;
        for (int i = 0; i < MOST_PEOPLE && left >= 0 && order[left] > order[left + 1]; i++) {
            left--;
        }
        if (left < 0) {
            return false;
        }
        int right = people - 1;
        for (int i = 0; i < MOST_PEOPLE && right > left + 1 && order[right] < order[left]; i++) {
            right--;
        }
        swapInOrder(left, right);
        for (int i = 1; left + i < people - i; i++) {
            swapInOrder(left + i, people - i);
        }
        return true;
    }

    private void swapInOrder(int i, int j) {
        int one = order[i];
        order[i] = order[j];
        order[j] = one;
    }

    public int ways(int sum) {
        if (sum < 0 || sum > MOST_SUM) {
            return BAD;
        }
        for (int i = 0; i <= sum; i++) {
            made[i] = 0;
        }
        made[0] = 1;
        for (int w = 0; w < SORTS; w++) {
            makeMoreWays(now.worth[w], now.inHat[w], sum);
        }
        return made[sum];
    }

    private void makeMoreWays(int worth, int many, int sum) {
        // from the highest on, so that what stands below is still without this SORT
        for (int i = sum; i >= 0; i--) {
            int without = made[i];
            for (int k = 1; k <= many && k * worth <= i; k++) {
                made[i] += worth == 0 ? without : made[i - k * worth];
            }
        }
    }

    public long share(int p, int part) {
        if (!isThere(p) || part < 0 || part > 1) {
            return NO;
        }
        int all = now.worthOfAll();
        for (int q = 0; q < now.people; q++) {
            all += now.purse[q];
        }
        return inLowestTerms(now.purse[p], all, part);
    }

    private static long inLowestTerms(int above, int below, int part) {
        int common = below;
        int rest = above;
        for (int i = 0; i < 100 && rest != 0; i++) {
            int left = common % rest;
            common = rest;
            rest = left;
        }
        if (common == 0 || below == 0) {
            return NO;
        }
        return part == 0 ? above / common : below / common;
    }

    // ---- told rounds

    public int judge(int s) {
        int refusal = sheets.refusalToTell(s);
        if (refusal != 0) {
            return refusal;
        }
        thought.become(now);
        return otherwise(s);
    }

    /** The first number of a SHEET that is otherwise than the TURNS in thought, which go on. */
    private int otherwise(int s) {
        for (int i = 0; i < sheets.sizes[s]; i++) {
            if (thought.goOn() + 1 != sheets.cells[s][i]) {
                return i;
            }
        }
        return -1;
    }

    public int kinds(int s, int p, int sort) {
        int refusal = refusalOfOne(s, isThere(p), sort);
        if (refusal != 0) {
            return refusal;
        }
        int bits = 0;
        for (int v = 0; v < (sort == 0 ? KINDS : MORES); v++) {
            thought.become(now);
            if (sort == 0) {
                thought.kind[p] = v;
            } else {
                thought.more[p] = v;
            }
            if (otherwise(s) < 0) {
                bits |= 1 << v;
            }
        }
        return bits;
    }

    private int refusalOfOne(int s, boolean there, int what) {
        int refusal = sheets.refusalToTell(s);
        if (refusal != 0) {
            return refusal;
        }
        if (!there) {
            return NOT_THERE;
        }
        return what < 0 || what > 1 ? NO_WHAT : 0;
    }

    public int prides(int s, int p, int what) {
        int refusal = refusalOfOne(s, isThere(p), what);
        if (refusal != 0) {
            return refusal;
        }
        int many = 0;
        int least = -1;
        for (int v = MOST_PRIDE; v >= 0; v--) {
            thought.become(now);
            thought.pride[p] = v;
            if (otherwise(s) < 0) {
                many++;
                least = v;
            }
        }
        return what == 0 ? many : least;
    }

    public int hats(int s, int w, int what) {
        int refusal = refusalOfOne(s, isSort(w), what);
        if (refusal != 0) {
            return refusal;
        }
        int many = 0;
        int least = -1;
        for (int v = MOST_OF_SORT; v >= 0; v--) {
            thought.become(now);
            thought.setInHat(w, v);
            if (otherwise(s) < 0) {
                many++;
                least = v;
            }
        }
        return what == 0 ? many : least;
    }

    public int starts(int s) {
        int refusal = sheets.refusalToTell(s);
        if (refusal != 0) {
            return refusal;
        }
        int bits = 0;
        for (int p = 0; p < now.people; p++) {
            thought.become(now);
            thought.turn = p;
            if (otherwise(s) < 0) {
                bits |= 1 << p;
            }
        }
        return bits;
    }

    public int laws(int s) {
        int refusal = sheets.refusalToTell(s);
        if (refusal != 0) {
            return refusal;
        }
        int bits = 0;
        for (int t = 0; t < texts.size; t++) {
            thought.become(now);
            thought.law = t;
            if (otherwise(s) < 0) {
                bits |= 1 << t;
            }
        }
        return bits;
    }

    public int film(int s, int n) {
        if (!isSheet(s)) {
            return BAD;
        }
        if (n < 0 || n > MOST_TOLD) {
            return NO_WHAT;
        }
        sheets.become(s, Sheets.BYTES, n);
        thought.become(now);
        for (int i = 0; i < n; i++) {
            sheets.cells[s][i] = thought.goOn() + 1;
        }
        return n;
    }

    // ---- hats by lots

    public int drawn(int seed, int n, int what) {
        if (seed < 0 || seed > MOST_SEED || n < 0 || n > MOST_DRAWN || what < 0 || what > 1) {
            return BAD;
        }
        putLots(seed, n);
        int last = thought.goWhileCoins(MOST_COINS);
        if (what == 1) {
            return last;
        }
        int best = firstMost(thought.purse, thought.people);
        return best < 0 ? 0 : thought.purse[best];
    }

    private void putLots(int seed, int n) {
        thought.become(now);
        long lot = seed + 1;
        for (int i = 0; i < n; i++) {
            lot = lot * 48271 % 2147483647;
            int w = (int) (lot % SORTS);
            thought.setInHat(w, Math.min(MOST_OF_SORT, thought.inHat[w] + 1));
        }
    }

    public long odds(int seed, int seeds, int p, int part) {
        if (seed < 0 || seed > MOST_SEED || seeds < 1 || seeds > MOST_SEEDS || !isThere(p) || part < 0 || part > 1) {
            return NO;
        }
        int times = 0;
        for (int i = 0; i < seeds; i++) {
            putLots(seed + i, ODDS_COINS);
            if (thought.goWhileCoins(MOST_COINS) == p) {
                times++;
            }
        }
        return inLowestTerms(times, seeds, part);
    }

    public int image() {
        kept.become(now);
        imaged = true;
        return kept.people;
    }

    public int back() {
        if (!imaged) {
            return STATE;
        }
        now.become(kept);
        return now.people;
    }

    // ---- the host

    public int sheet(int s, int sort, int n) {
        if (!isSheet(s) || sort < -1 || sort > Sheets.INTS || (sort != -1 && n > SHEET_SIZE)) {
            return BAD;
        }
        if (sort != -1 && n < 0) {
            return BELOW_0;
        }
        sheets.become(s, sort, sort == -1 ? 0 : n);
        return 1;
    }

    public int cell(int s, int i, int v) {
        if (!isSheet(s)) {
            return BAD;
        }
        if (sheets.isMissing(s)) {
            return MISSING;
        }
        if (i < 0 || i >= sheets.sizes[s]) {
            return OUTSIDE;
        }
        sheets.store(s, i, v);
        return 1;
    }

    public int copy(int s, int i, int other, int j, int n) {
        if (!isSheet(s) || !isSheet(other)) {
            return BAD;
        }
        if (sheets.isMissing(s) || sheets.isMissing(other)) {
            return MISSING;
        }
        if (sheets.sorts[s] != sheets.sorts[other]) {
            return UNLIKE;
        }
        if (n < 0 || i < 0 || j < 0 || i > sheets.sizes[s] - n || j > sheets.sizes[other] - n) {
            return OUTSIDE;
        }
        System.arraycopy(sheets.cells[s], i, sheets.cells[other], j, n);
        return n;
    }

    public int pewBy(int s, int sort, int from, int n) {
        if (!isSheet(s) || sort < 0 || sort > Sheets.INTS || n < 0 || n > MOST_PEOPLE) {
            return BAD;
        }
        if (sheets.isMissing(s)) {
            return MISSING;
        }
        if (sheets.sorts[s] != sort) {
            return UNLIKE;
        }
        int came = 0;
        for (int k = 0; k < n; k++) {
            int place = from + 2 * k;
            if (place < 0 || place > sheets.sizes[s] - 2) {
                return OUTSIDE;
            }
            if (person(sheets.cells[s][place], sheets.cells[s][place + 1]) >= 0) {
                came++;
            }
        }
        return came;
    }

    public int taken(int i, int kind) {
        if (kind < 0 || kind > COIN_KIND) {
            return BAD;
        }
        if (i < 0 || i >= MOST_PEOPLE + SORTS) {
            return OUTSIDE;
        }
        if (i >= MOST_PEOPLE) {
            return kind == COIN_KIND ? now.inHat[i - MOST_PEOPLE] : UNLIKE;
        }
        if (!isThere(i)) {
            return MISSING;
        }
        return isOneOf(now.kind[i], kind) ? i : UNLIKE;
    }

    private static boolean isOneOf(int kind, int other) {
        switch (other) {
            case PERSON: return true;
            case RICH: return kind == RICH || kind == STIRRING;
            case POOR: return kind == POOR || kind == WIDOW;
            default: return kind == other;
        }
    }

    private static boolean isSort(int w) {
        return w >= 0 && w < SORTS;
    }

    private static boolean isByte(int v) {
        return v >= 0 && v <= 255;
    }

    private static boolean isSheet(int s) {
        return s >= 0 && s < SHEETS;
    }

    private boolean isThere(int p) {
        return p >= 0 && p < now.people;
    }

    /** A hat, a pew and whose turn it is: as they are, as they are thought of, or as an image keeps them. */
    private static final class Round {
        final Texts texts;
        final int[] worth;
        final int[] inHat;
        final int[] kind;
        final int[] more;
        final int[] pride;
        final int[] purse;
        final int[] loud;
        final int[] names;
        int people;
        int coins;
        int turn;
        int turns;
        int law;

        Round(Texts all) {
            texts = all;
            worth = new int[SORTS];
            for (int w = 0; w < SORTS; w++) {
                worth[w] = 1 << w;
            }
            inHat = new int[SORTS];
            kind = new int[MOST_PEOPLE];
            more = new int[MOST_PEOPLE];
            pride = new int[MOST_PEOPLE];
            purse = new int[MOST_PEOPLE];
            loud = new int[MOST_PEOPLE];
            names = new int[-MORE];
        }

        void become(Round other) {
            System.arraycopy(other.worth, 0, worth, 0, SORTS);
            System.arraycopy(other.inHat, 0, inHat, 0, SORTS);
            System.arraycopy(other.kind, 0, kind, 0, MOST_PEOPLE);
            System.arraycopy(other.more, 0, more, 0, MOST_PEOPLE);
            System.arraycopy(other.pride, 0, pride, 0, MOST_PEOPLE);
            System.arraycopy(other.purse, 0, purse, 0, MOST_PEOPLE);
            System.arraycopy(other.loud, 0, loud, 0, MOST_PEOPLE);
            people = other.people;
            coins = other.coins;
            turn = other.turn;
            turns = other.turns;
            law = other.law;
        }

        void setInHat(int w, int many) {
            coins += many - inHat[w];
            inHat[w] = many;
        }

        int worthOfAll() {
            int sum = 0;
            for (int w = 0; w < SORTS; w++) {
                sum += worth[w] * inHat[w];
            }
            return sum;
        }

        int comes(int kindMore, int proud) {
            int p = people;
            if (p < 0 || p >= MOST_PEOPLE) {
                return FULL;
            }
            kind[p] = kindMore / MORES;
            more[p] = kindMore % MORES;
            pride[p] = proud;
            purse[p] = 0;
            loud[p] = 0;
            people = p + 1;
            return p;
        }

        /** What a part of THE LAW says of one of PEOPLE and a SORT (-1: none). */
        int says(int part, int p, int w) {
            names[-1 - PRIDE] = pride[p];
            names[-1 - WORTH] = w < 0 ? 0 : worth[w];
            names[-1 - COINS] = coins;
            names[-1 - PURSE] = Math.min(MOST_SAID, purse[p]);
            names[-1 - TURNS] = turns;
            names[-1 - MORE] = more[p];
            int least = part == COSTS_PART ? -MOST_SAID : 0;
            return Math.max(least, Math.min(MOST_SAID, texts.value(law, part, names)));
        }

        int takes(int p) {
            switch (kind[p]) {
                case RICH: return says(TAKES_PART, p, -1) / 4;
                case POOR:
                case WIDOW: return says(TAKES_PART, p, -1) + 5 * more[p];
                case STIRRING: return turns % 2 == 0 ? more[p] : says(TAKES_PART, p, -1) / 4;
                case CHILD: return 99;
                default: return says(TAKES_PART, p, -1);
            }
        }

        int sounds(int p, int w) {
            switch (kind[p]) {
                case RICH: return says(SOUNDS_PART, p, w) + more[p];
                case STIRRING: return 3 * (says(SOUNDS_PART, p, w) + more[p]);
                case WIDOW: return 0;
                default: return says(SOUNDS_PART, p, w);
            }
        }

        int costs(int p, int w) {
            switch (kind[p]) {
                case POOR: return 2 * says(COSTS_PART, p, w);
                case WIDOW: return 2 * says(COSTS_PART, p, w) - more[p];
                case CHILD: return 0;
                default: return says(COSTS_PART, p, w);
            }
        }

        /** THE COIN of one who TAKES so much; -1: the hat is empty. */
        int coinUpTo(int most) {
            int fit = -1;
            int least = -1;
            for (int w = 0; w < SORTS; w++) {
                if (inHat[w] > 0) {
                    if (worth[w] <= most && (fit < 0 || worth[w] > worth[fit])) {
                        fit = w;
                    }
                    if (least < 0 || worth[w] < worth[least]) {
                        least = w;
                    }
                }
            }
            return fit < 0 ? least : fit;
        }

        /** One of PEOPLE, whoever has the hat, takes out a coin: its SORT. */
        int take(int p) {
            int w = coinUpTo(takes(p));
            if (w >= 0) {
                int sound = sounds(p, w);
                int cost = costs(p, w);
                setInHat(w, inHat[w] - 1);
                purse[p] = Math.min(MOST_PURSE, purse[p] + worth[w]);
                loud[p] = Math.max(loud[p], sound);
                pride[p] = Math.max(0, Math.min(MOST_PRIDE, pride[p] - cost));
            }
            turns = Math.min(MOST_TURNS, turns + 1);
            return w;
        }

        /** A TURN: which SORT is taken; -1: none. */
        int goOn() {
            if (people == 0) {
                return -1;
            }
            int w = take(turn);
            turn = turn + 1 < people ? turn + 1 : 0;
            return w;
        }

        /** As many TURNS, but none with an empty hat: who took a coin last; -1: nobody did. */
        int goWhileCoins(int most) {
            int last = -1;
            for (int i = 0; i < most && people > 0 && coins > 0; i++) {
                last = turn;
                goOn();
            }
            return last;
        }
    }

    /** The TEXTS, each kept with every operator behind what it joins. */
    private static final class Texts {
        private static final int STACK_SIZE = 40;

        final int[][] codes;
        final int[][] ends;
        private final int[] stack;
        int size;

        Texts() {
            codes = new int[MOST_TEXTS][TAPE_SIZE];
            ends = new int[MOST_TEXTS][PARTS];
            // five that are open leave 31 numbers waiting at most
            stack = new int[STACK_SIZE];
            codes[0][0] = PRIDE;
            codes[0][1] = WORTH;
            codes[0][2] = 1;
            for (int part = 0; part < PARTS; part++) {
                ends[0][part] = part + 1;
            }
            size = 1;
        }

        int value(int text, int part, int[] names) {
            int[] code = codes[text];
            int end = ends[text][part];
            int top = -1;
            for (int i = part == 0 ? 0 : ends[text][part - 1]; i < end; i++) {
                int what = code[i];
                if (what >= MORE) {
                    if (top + 1 < STACK_SIZE) {
                        top++;
                        stack[top] = what >= 0 ? what : names[-1 - what];
                    }
                } else if (what == NEGATE || what == NOT) {
                    if (top >= 0) {
                        stack[top] = what == NEGATE ? -stack[top] : stack[top] == 0 ? 1 : 0;
                    }
                } else if (top >= 1) {
                    top--;
                    stack[top] = joined(what, stack[top], stack[top + 1]);
                }
            }
            return top >= 0 ? stack[top] : 0;
        }

        private static int joined(int operator, int a, int b) {
            switch (operator) {
                case OR: return a != 0 || b != 0 ? 1 : 0;
                case AND: return a != 0 && b != 0 ? 1 : 0;
                case LESS: return a < b ? 1 : 0;
                case SAME: return a == b ? 1 : 0;
                case PLUS: return a + b;
                case MINUS: return a - b;
                default: return a * b;
            }
        }
    }

    /** THE TAPE, and how a TEXT is read from it. */
    private static final class Tape {
        private static final int MOST_OPEN = 5, MOST_DIGITS = 4;
        private static final int OR_LEVEL = 0, AND_LEVEL = 1, NOT_LEVEL = 2, SUM_LEVEL = 3, TERM_LEVEL = 4, ONE_LEVEL = 5;

        private final int[] bytes;
        int size;
        private int[] code;
        private int written;
        private int place;
        private int start;
        private int token;
        private int number;
        private int fault;

        Tape() {
            bytes = new int[TAPE_SIZE];
            code = bytes;
        }

        void add(int b) {
            if (size < TAPE_SIZE) {
                bytes[size] = b;
                size++;
            }
        }

        /** The place of the FAULT; -1: there is none, and the two rows hold the TEXT. */
        int read(int[] intoCode, int[] intoEnds) {
            code = intoCode;
            written = 0;
            place = 0;
            fault = -1;
            step();
            for (int part = 0; part < PARTS && part < intoEnds.length; part++) {
                must(TAKES - part);
                readPart(this, OR_LEVEL, 0);
                must(SEMICOLON);
                intoEnds[part] = written;
            }
            if (token != END) {
                refuse();
            }
            return fault;
        }

        private void must(int wanted) {
            if (token == wanted) {
                step();
            } else {
                refuse();
            }
        }

        private void refuse() {
            if (fault < 0) {
                fault = start;
            }
            // nothing reads on behind a FAULT
            token = BROKEN;
        }

        private void write(int what) {
            if (written < code.length) {
                code[written] = what;
                written++;
            }
        }

        /**
         * Reads what stands at a level of binding, and writes it with every operator behind what it joins.
         * It is static because LANGUAGE.md lets only a static method call itself.
         */
        private static void readPart(Tape tape, int level, int open) {
            int first = tape.token;
            if ((level == NOT_LEVEL && first == NOT) || (level == ONE_LEVEL && first == MINUS)) {
                if (tape.opens(open)) {
                    readPart(tape, level, open + 1);
                    tape.write(first == NOT ? NOT : NEGATE);
                }
            } else if (level < ONE_LEVEL) {
                readPart(tape, level + 1, open);
                int most = level == NOT_LEVEL ? 1 : TAPE_SIZE;
                for (int i = 0; i < most && levelOf(tape.token) == level; i++) {
                    int operator = tape.token;
                    tape.step();
                    readPart(tape, level + 1, open);
                    tape.write(operator);
                }
            } else if (first == OPEN) {
                if (tape.opens(open)) {
                    readPart(tape, OR_LEVEL, open + 1);
                    tape.must(CLOSE);
                }
            } else if (first == NUMBER || (first <= PRIDE && first >= MORE)) {
                tape.write(first == NUMBER ? tape.number : first);
                tape.step();
            } else {
                tape.refuse();
            }
        }

        /** Whether one more of those that stay open may stand here, with so many open; then it is read. */
        private boolean opens(int open) {
            if (open >= MOST_OPEN) {
                refuse();
                return false;
            }
            step();
            return true;
        }

        private static int levelOf(int operator) {
            switch (operator) {
                case OR: return OR_LEVEL;
                case AND: return AND_LEVEL;
                case LESS:
                case SAME: return NOT_LEVEL;
                case PLUS:
                case MINUS: return SUM_LEVEL;
                case TIMES: return TERM_LEVEL;
                default: return -1;
            }
        }

        private void step() {
            if (fault >= 0) {
                return;
            }
            while (place < size && (bytes[place] == ' ' || bytes[place] == '\n')) {
                place++;
            }
            start = place;
            if (place >= size) {
                token = END;
            } else if (isLetter(bytes[place])) {
                token = stepOverWord();
            } else if (isDigit(bytes[place])) {
                token = stepOverNumber();
            } else {
                token = signOf(bytes[place]);
                place++;
            }
        }

        private int stepOverWord() {
            while (place < size && isLetter(bytes[place])) {
                place++;
            }
            for (int word = PRIDE; word >= COSTS; word--) {
                if (stands(wordOf(word))) {
                    return word;
                }
            }
            return BROKEN;
        }

        /** Whether a word is what stands between start and place. */
        private boolean stands(String word) {
            if (word.length() != place - start) {
                return false;
            }
            for (int i = 0; i < word.length(); i++) {
                if (word.charAt(i) != bytes[start + i]) {
                    return false;
                }
            }
            return true;
        }

        private static String wordOf(int word) {
            switch (word) {
                case PRIDE: return "pride";
                case WORTH: return "worth";
                case COINS: return "coins";
                case PURSE: return "purse";
                case TURNS: return "turns";
                case MORE: return "more";
                case OR: return "or";
                case AND: return "and";
                case NOT: return "not";
                case TAKES: return "takes";
                case SOUNDS: return "sounds";
                case COSTS: return "costs";
                default: return "";
            }
        }

        private int stepOverNumber() {
            number = 0;
            while (place < size && isDigit(bytes[place])) {
                // one that is too long may wrap: it is refused
                number = number * 10 + bytes[place] - '0';
                place++;
            }
            return place - start > MOST_DIGITS ? BROKEN : NUMBER;
        }

        private static int signOf(int b) {
            switch (b) {
                case '(': return OPEN;
                case ')': return CLOSE;
                case ';': return SEMICOLON;
                case '+': return PLUS;
                case '-': return MINUS;
                case '*': return TIMES;
                case '<': return LESS;
                case '=': return SAME;
                default: return BROKEN;
            }
        }

        private static boolean isLetter(int b) {
            return b >= 'a' && b <= 'z';
        }

        private static boolean isDigit(int b) {
            return b >= '0' && b <= '9';
        }
    }

    /** The SHEETS; of one that is missing the sort is -1 and the size 0. */
    private static final class Sheets {
        static final int BYTES = 0, SHORTS = 1, INTS = 2;

        final int[] sorts;
        final int[] sizes;
        final int[][] cells;

        Sheets() {
            sorts = new int[SHEETS];
            sizes = new int[SHEETS];
            cells = new int[SHEETS][SHEET_SIZE];
            for (int s = 0; s < SHEETS; s++) {
                sorts[s] = -1;
            }
        }

        boolean isMissing(int s) {
            return sorts[s] < 0;
        }

        void become(int s, int sort, int n) {
            sorts[s] = sort;
            sizes[s] = n;
            for (int i = 0; i < SHEET_SIZE; i++) {
                cells[s][i] = 0;
            }
        }

        void store(int s, int i, int v) {
            switch (sorts[s]) {
                case BYTES: cells[s][i] = (byte) v; break;
                case SHORTS: cells[s][i] = (short) v; break;
                default: cells[s][i] = v; break;
            }
        }

        /** Why a SHEET can't tell a round; 0: it can. */
        int refusalToTell(int s) {
            if (!isSheet(s)) {
                return BAD;
            }
            if (isMissing(s)) {
                return MISSING;
            }
            return sizes[s] > MOST_TOLD ? BAD : 0;
        }
    }
}
