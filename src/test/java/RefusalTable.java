import java.util.ArrayList;
import java.util.List;
import java.util.Map;
import java.util.TreeMap;
import java.util.function.Supplier;

/**
 * The refusals of a call in their order, and for each of its numbers some that are as told and some that are refused.
 * Each combination is asked: alone, in pairs and more the first refusal told is due, and that nothing has changed.
 */
final class RefusalTable extends Checks {
    private static final int AT_ONCE = 40;

    private final int promise;
    private final String name;
    private final String sentence;
    private final long[] codes;
    private final List<String[]> values = new ArrayList<>();
    private final List<int[]> ranks = new ArrayList<>();
    /** The combinations, by the refusals (bits) that meet in them. */
    private final Map<Integer, List<String>> met = new TreeMap<>();

    RefusalTable(int promise, String name, String sentence, long... codes) {
        this.promise = promise;
        this.name = name;
        this.sentence = sentence;
        this.codes = codes;
    }

    /** One of the call's numbers: "0 5 | 1: -1 6" are 0 and 5, which are as told, and -1 and 6, which refusal 1 is of. */
    RefusalTable number(String words) {
        List<String> all = new ArrayList<>();
        List<Integer> rank = new ArrayList<>();
        for (String part : words.split("\\|")) {
            String[] of = part.trim().split(": *");
            for (String value : of[of.length - 1].trim().split(" +")) {
                all.add(value);
                rank.add(of.length == 1 ? 0 : Integer.parseInt(of[0].trim()));
            }
        }
        values.add(all.toArray(new String[0]));
        ranks.add(rank.stream().mapToInt(Integer::intValue).toArray());
        return this;
    }

    /** A call in which these refusals (bits; refusal 1 is bit 0) meet. */
    void add(int refusals, String words) {
        if (refusals != 0) {
            met.computeIfAbsent(refusals, none -> new ArrayList<>()).add(words);
        }
    }

    private void combine(int number, int refusals, String words) {
        if (number == values.size()) {
            add(refusals, words);
            return;
        }
        for (int i = 0; i < values.get(number).length; i++) {
            int rank = ranks.get(number)[i];
            combine(number + 1, refusals | (rank == 0 ? 0 : 1 << rank - 1), words + " " + values.get(number)[i]);
        }
    }

    void due(Supplier<HatGoesRound> state) {
        due(state, 0);
    }

    /** All combinations, asked in a state that is itself refused by one of the refusals (0: by none). */
    void due(Supplier<HatGoesRound> state, int rankOfState) {
        combine(0, rankOfState == 0 ? 0 : 1 << rankOfState - 1, name);
        dueOfMet(state);
    }

    void dueOfMet(Supplier<HatGoesRound> state) {
        List<String> before = Observed.of(state.get());
        for (Map.Entry<Integer, List<String>> some : met.entrySet()) {
            int first = Integer.numberOfTrailingZeros(some.getKey());
            alsoOf(promise, sentence, caseOf(some.getKey()));
            List<String> calls = some.getValue();
            for (int i = 0; i < calls.size(); i += AT_ONCE) {
                HatGoesRound x = state.get();
                List<String> part = calls.subList(i, Math.min(i + AT_ONCE, calls.size()));
                for (String words : part) {
                    Checks.due(x, words, codes[first]);
                }
                String difference = Observed.difference(before, Observed.of(x));
                Checks.due("changes by one of " + part + ": " + difference, difference.isEmpty() ? 0 : 1, 0);
            }
        }
        met.clear();
    }

    private String caseOf(int refusals) {
        StringBuilder b = new StringBuilder();
        for (int rank = 0; rank < codes.length; rank++) {
            if ((refusals >> rank & 1) != 0) {
                b.append(b.length() == 0 ? "" : Integer.bitCount(refusals) == 2 ? " ahead of " : ", ").append(codes[rank]);
                b.append(" (").append(rank + 1).append(')');
            }
        }
        return b + (Integer.bitCount(refusals) == 1 ? " alone" : "");
    }
}
