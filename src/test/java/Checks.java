import java.lang.reflect.InvocationTargetException;
import java.lang.reflect.Method;
import java.util.ArrayList;
import java.util.HashMap;
import java.util.LinkedHashMap;
import java.util.List;
import java.util.Map;
import java.util.WeakHashMap;

/**
 * What the tests of sentences are made with. A call is told in words: "fill 2 0 99" asks fill(2, 0, 99); MIN and MAX
 * are the least and the most int. A test says the promise's number and the sentence of ../shared/DOC.md that it is of.
 */
abstract class Checks {
    static final long NO = -4611686018427387904L;
    static final int NONE = -1, BAD = -2, STATE = -3, FULL = -4;
    private static final int MOST_CALLS = 512;

    /** The sentences that were tested, by the promise's number, in their order. */
    static final Map<Integer, List<String>> TESTED = new LinkedHashMap<>();
    private static final Map<String, Method> METHODS = new HashMap<>();
    private static final Map<HatGoesRound, Integer> CALLS = new WeakHashMap<>();
    private static String test = "no sentence";
    private static int tests = 0;
    private static int answers = 0;
    private static int wrongs = 0;
    private static int allAnswers = 0;
    private static int allWrongs = 0;

    Checks() { }

    /** Here the test of a sentence begins; the one before has ended. */
    static void of(int promise, String sentence) {
        endOfTest();
        test = "promise " + promise + ": \"" + sentence + "\"";
        tests++;
        TESTED.computeIfAbsent(promise, none -> new ArrayList<>()).add(sentence);
    }

    /** A test that is of a sentence told before, in another case. */
    static void alsoOf(int promise, String sentence, String inWhichCase) {
        of(promise, sentence);
        test += ", " + inWhichCase;
    }

    private static void endOfTest() {
        if (answers > 0) {
            System.out.println(test + " .. " + answers + " answers" + (wrongs > 0 ? ", " + wrongs + " NOT AS DUE" : ""));
        } else if (tests > 0) {
            wrong("the test asks nothing");
        }
        allAnswers += answers;
        allWrongs += wrongs;
        answers = 0;
        wrongs = 0;
    }

    static void wrong(String what) {
        wrongs++;
        System.out.println(test + ": " + what);
    }

    /** Ends the last test: how many answers were not as due. */
    static int end() {
        endOfTest();
        System.out.println(tests + " tests of sentences, " + allAnswers + " answers, " + allWrongs + " not as due");
        tests = 0;
        return allWrongs;
    }

    static int wrongsUpToNow() {
        return allWrongs + wrongs;
    }

    // ---- calls

    private static Method method(String name) {
        if (METHODS.isEmpty()) {
            for (Method m : HatGoesRound.class.getMethods()) {
                METHODS.put(m.getName(), m);
            }
        }
        Method found = METHODS.get(name);
        if (found == null) {
            throw new IllegalStateException("no call " + name);
        }
        return found;
    }

    private static Integer number(String word) {
        return word.equals("MIN") ? Integer.MIN_VALUE : word.equals("MAX") ? Integer.MAX_VALUE : Integer.valueOf(word);
    }

    static long call(HatGoesRound x, String words) {
        if (CALLS.merge(x, 1, Integer::sum) > MOST_CALLS) {
            throw new IllegalStateException("a test asks an object more than " + MOST_CALLS + " times: " + test);
        }
        String[] word = words.trim().split(" +");
        Object[] arguments = new Object[word.length - 1];
        for (int i = 0; i < arguments.length; i++) {
            arguments[i] = number(word[i + 1]);
        }
        try {
            return ((Number) method(word[0]).invoke(x, arguments)).longValue();
        } catch (IllegalAccessException e) {
            throw new IllegalStateException(words, e);
        } catch (InvocationTargetException e) {
            wrong(words + " threw " + e.getCause());
            return Long.MIN_VALUE;
        }
    }

    static void due(HatGoesRound x, String words, long want) {
        due(words, call(x, words), want);
    }

    static void due(String what, long got, long want) {
        answers++;
        if (got != want) {
            wrong(what + " answered " + got + ", due is " + want);
        }
    }

    /** Several calls, parted by commas, that are all due to answer the same. */
    static void dues(HatGoesRound x, long want, String... calls) {
        for (String some : calls) {
            for (String words : some.split(",")) {
                due(x, words.trim(), want);
            }
        }
    }

    /** Calls, parted by commas, that a test needs ahead: none of them may be refused. */
    static HatGoesRound does(HatGoesRound x, String... calls) {
        for (String some : calls) {
            for (String words : some.split(",")) {
                long got = call(x, words);
                if (got < 0) {
                    wrong(words + ", asked ahead, answered " + got);
                }
            }
        }
        return x;
    }

    static HatGoesRound made(String... calls) {
        return does(new HatGoesRound(), calls);
    }

    static HatGoesRound nothing() {
        return new HatGoesRound();
    }

    // ---- texts and sheets

    static void feed(HatGoesRound x, String text) {
        for (int i = 0; i < text.length(); i += 5) {
            StringBuilder words = new StringBuilder("feed ").append(Math.min(5, text.length() - i));
            for (int k = i; k < i + 5; k++) {
                words.append(' ').append(k < text.length() ? (int) text.charAt(k) : 0);
            }
            does(x, words.toString());
        }
    }

    /** The answer of text() to THE TAPE with a text behind what it has. */
    static long text(HatGoesRound x, String text) {
        feed(x, text);
        return call(x, "text");
    }

    /** A TEXT becomes THE LAW. */
    static HatGoesRound law(HatGoesRound x, String text) {
        long number = text(x, text);
        return does(x, "force " + number);
    }

    static HatGoesRound law(HatGoesRound x, String takes, String sounds, String costs) {
        return law(x, "takes " + takes + ";sounds " + sounds + ";costs " + costs + ";");
    }

    /** A SHEET of a sort becomes these numbers. */
    static HatGoesRound row(HatGoesRound x, int s, int sort, int... numbers) {
        does(x, "sheet " + s + " " + sort + " " + numbers.length);
        for (int i = 0; i < numbers.length; i++) {
            does(x, "cell " + s + " " + i + " " + numbers[i]);
        }
        return x;
    }

    /** SHEET 0, of bytes, becomes these numbers. */
    static HatGoesRound tells(HatGoesRound x, int... numbers) {
        return row(x, 0, 0, numbers);
    }
}
