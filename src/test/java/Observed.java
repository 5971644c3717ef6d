import java.util.ArrayList;
import java.util.List;
import java.util.function.Supplier;

/** All that can be asked of an object, so that two that were made alike can be compared. It is used up by that. */
final class Observed extends Checks {
    private Observed() { }

    private static final String REST_OF_TEXT = "nds worth+7;costs 2;";

    static List<String> of(HatGoesRound x) {
        List<String> all = new ArrayList<>();
        state(x, all);
        answers(x, all);
        theTape(x, all);
        add(x, all, "back");
        state(x, all);
        sheets(x, all);
        return all;
    }

    private static void add(HatGoesRound x, List<String> all, String... calls) {
        for (String words : calls) {
            all.add(words + " = " + call(x, words));
        }
    }

    private static void state(HatGoesRound x, List<String> all) {
        for (int what = 0; what <= 6; what++) {
            add(x, all, "count " + what);
        }
        for (int w = 0; w < 6; w++) {
            add(x, all, "hat " + w + " 0", "hat " + w + " 1");
        }
        for (int p = 0; p < 6; p++) {
            for (int what = 0; what <= 4; what++) {
                add(x, all, "told " + p + " " + what);
            }
        }
    }

    private static void answers(HatGoesRound x, List<String> all) {
        for (int p = 0; p < 6; p++) {
            add(x, all, "told " + p + " 5", "told " + p + " 6", "coin " + p + " 4 0", "coin " + p + " 5 1", "asks 0 " + p + " 1", "asks 1 " + p + " 1");
        }
        add(x, all, "run 120 1", "run 5 10", "run 3 2", "end 0", "end 1", "first 0 1", "vicar 1 0", "ways 7", "share 0 0", "share 0 1");
        for (int s = 0; s < 4; s++) {
            add(x, all, "judge " + s, "starts " + s, "laws " + s);
        }
        add(x, all, "kinds 0 0 0", "prides 0 1 0", "hats 0 5 0", "drawn 7 20 0", "odds 5 7 0 0");
        if (call(x, "count 0") < 6) {
            add(x, all, "seating 0", "seating 1");
        }
    }

    private static void theTape(HatGoesRound x, List<String> all) {
        if (call(x, "count 5") + REST_OF_TEXT.length() <= 160) {
            feed(x, REST_OF_TEXT);
        }
        add(x, all, "text", "count 3", "count 5");
        call(x, "force " + (call(x, "count 3") - 1));
        add(x, all, "asks 0 0 0", "asks 1 0 0", "asks 2 0 0");
    }

    private static void sheets(HatGoesRound x, List<String> all) {
        does(x, "image");
        for (int s = 0; s < 4; s++) {
            for (int size = 0; size <= 9; size++) {
                add(x, all, "copy " + s + " " + size + " " + s + " " + size + " 0");
            }
            add(x, all, "copy " + s + " 31 " + s + " 31 0", "copy " + s + " 32 " + s + " 32 0");
            int sort = 0;
            while (sort < 3 && call(x, "pewBy " + s + " " + sort + " 0 0") != 0) {
                sort++;
            }
            all.add("sort of " + s + ": " + sort);
            for (int place = 0; sort < 3 && place <= 4; place += 4) {
                add(x, all, "pewBy " + s + " " + sort + " " + place + " 2");
                for (int p = 0; p < 6; p++) {
                    add(x, all, "told " + p + " 0", "told " + p + " 3", "told " + p + " 4");
                }
                does(x, "back");
            }
        }
    }

    /** Where two that were made alike are not alike any more; nothing, if they are. */
    static String difference(List<String> one, List<String> other) {
        for (int i = 0; i < one.size() && i < other.size(); i++) {
            if (!one.get(i).equals(other.get(i))) {
                return one.get(i) + " became " + other.get(i);
            }
        }
        return one.size() == other.size() ? "" : "the number of answers";
    }

    /** Due: of an object made so all is as of another that was made otherwise. */
    static void dueAlike(Supplier<HatGoesRound> one, Supplier<HatGoesRound> other, String what) {
        String difference = difference(of(one.get()), of(other.get()));
        due(what + ": " + difference, difference.isEmpty() ? 0 : 1, 0);
    }

    /** Due: these calls, whatever they answer, change nothing that can be asked of an object made so. */
    static void dueAsItWas(Supplier<HatGoesRound> state, List<String> calls) {
        List<String> before = of(state.get());
        HatGoesRound x = state.get();
        for (String words : calls) {
            call(x, words);
        }
        String difference = difference(before, of(x));
        due("changes by " + calls + ": " + difference, difference.isEmpty() ? 0 : 1, 0);
    }
}
