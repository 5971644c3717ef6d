import java.util.ArrayList;
import java.util.Arrays;
import java.util.List;
import java.util.function.Supplier;

/** A test of each sentence that tells refusals, of each pair of them that can meet, and of what changes nothing. */
final class RefusalSentences extends Checks {
    private RefusalSentences() { }

    private static final String FAR = " MIN MAX";
    private static final String SHEETS = "0 1 | 1: -1 4" + FAR + " | 2: 3 | 3: 2";

    /**
     * Four of PEOPLE, of whom two came behind the image; 2 TEXTS, of which 1 is THE LAW; 11 bytes on THE TAPE; 3 TURNS;
     * SHEET 0 is of 6 bytes, as the TURNS will be, 1 of 8 shorts, 2 of 31 ints, 3 is missing.
     */
    private static HatGoesRound rich() {
        HatGoesRound x = made("fill 0 1 5, fill 1 1 4, fill 3 1 3, fill 5 1 2, fill 2 0 7, fill 2 1 1");
        does(x, "person 0 30, person 11 20, image, person 32 50, person 43 60, put 2 1 500");
        law(x, "takes pride+1;sounds worth;costs 1+more;");
        does(x, "pass, pass, pass, film 0 6");
        row(x, 1, 1, 11, 12, 13, 14, 15, 16, 17, 18);
        does(x, "sheet 2 2 31, cell 2 0 21, cell 2 1 22, cell 2 2 23, cell 2 3 24, cell 2 4 25, cell 2 5 26, cell 2 6 27, cell 2 7 28");
        feed(x, "takes 5;sou");
        return x;
    }

    private static HatGoesRound sixPeople() {
        return does(rich(), "person 54 70, person 5 80");
    }

    private static HatGoesRound sixTexts() {
        HatGoesRound x = does(new HatGoesRound(), "person 0 30, person 11 20, fill 3 1 4");
        for (int t = 1; t <= 5; t++) {
            text(x, "takes " + t + ";sounds 1;costs 1;");
        }
        return x;
    }

    private static HatGoesRound tapeOf(int size) {
        HatGoesRound x = made("person 0 30, person 11 20, fill 3 1 4");
        feed(x, "takes 5;sounds 1;costs 7" + " ".repeat(size - 24));
        return x;
    }

    private static HatGoesRound nobody() {
        return made("fill 0 1 3, fill 5 1 2, sheet 0 0 3");
    }

    private static HatGoesRound emptyHat() {
        return made("person 0 30, person 11 20, hand 1, sheet 0 0 3, put 0 1 4");
    }

    static void all() {
        theHatAndThePeople();
        turnsAndWhatIsBest();
        toldRounds();
        lotsAndImages();
        theHost();
        ofSeveralTheFirst();
        changeNothing();
        askedChangesNothing();
    }

    private static RefusalTable table(int promise, String name, String sentence, long... codes) {
        return new RefusalTable(promise, name, sentence, codes);
    }

    // ---- the hat, the law, people

    private static void theHatAndThePeople() {
        table(2, "count", "BAD.", BAD).number("1: -1 7" + FAR).due(RefusalSentences::rich);

        String sentence = "-5: no such SORT; -7: what, v.";
        table(3, "fill", sentence, -5, -7).number("0 5 | 1: -1 6" + FAR).number("0 | 2: -1 2" + FAR)
            .number("0 99 | 2: -1 100" + FAR).due(RefusalSentences::rich);
        table(3, "fill", sentence, -5, -7).number("0 5 | 1: -1 6" + FAR).number("1 | 2: -1 2" + FAR)
            .number("0 20 | 2: -1 21 99" + FAR).due(RefusalSentences::rich);

        table(4, "hat", "-5: no such SORT; -7: what.", -5, -7).number("0 5 | 1: -1 6" + FAR).number("0 1 | 2: -1 3" + FAR)
            .due(RefusalSentences::rich);

        sentence = "BAD: n, any of the five; FULL: they have not all room (none comes).";
        RefusalTable feed = table(5, "feed", sentence, BAD, FULL).number("1 5 | 1: 0 6 -1" + FAR);
        RefusalTable feedFive = table(5, "feed", sentence, BAD, FULL).number("5 | 1: 6");
        RefusalTable feedTwo = table(5, "feed", sentence, BAD, FULL).number("2 3 4 5 | 1: 0 6");
        for (int i = 0; i < 5; i++) {
            feed.number(i == 0 ? "0 255 | 1: -1 256" + FAR : "255 | 1: -1 256");
            feedFive.number("7 | 1: 256" + (i == 2 ? FAR : ""));
            feedTwo.number("7 | 1: -1");
        }
        feed.due(RefusalSentences::rich);
        feed.due(() -> tapeOf(160), 2);
        feedFive.due(() -> tapeOf(156), 2);
        feedTwo.due(() -> tapeOf(159), 2);
        noneComes(sentence);

        fullOfTexts();

        table(7, "force", "BAD.", BAD).number("1: -1 2 3 6" + FAR).due(RefusalSentences::rich);
        table(7, "force", "BAD.", BAD).number("1: -1 6" + FAR).due(RefusalSentences::sixTexts);

        table(8, "asks", "-1000: none such.", -1000).number("0 2 | 1: -1 3" + FAR).number("0 3 | 1: -1 4" + FAR)
            .number("-1 5 | 1: -2 6" + FAR).due(RefusalSentences::rich);
        table(8, "asks", "-1000: none such.", -1000).number("0 1 2").number("1: 0 -1").number("-1 0").due(RefusalSentences::nobody);

        RefusalTable person = table(9, "person", "BAD; FULL.", BAD, FULL).number("0 59 | 1: -1 60" + FAR).number("0 99 | 1: -1 100" + FAR);
        person.due(RefusalSentences::rich);
        person.due(RefusalSentences::sixPeople, 2);

        sentence = "-5: none such; -7: what, v.";
        table(10, "put", sentence, -5, -7).number("0 3 | 1: -1 4 6" + FAR).number("0 | 2: -1 2" + FAR).number("0 99 | 2: -1 100" + FAR)
            .due(RefusalSentences::rich);
        table(10, "put", sentence, -5, -7).number("0 3 | 1: -1 4 6" + FAR).number("1 | 2: -1 2" + FAR).number("0 9999 | 2: -1 10000" + FAR)
            .due(RefusalSentences::rich);
        table(10, "put", sentence, -5, -7).number("0 5 | 1: -1 6").number("0 1 | 2: -1 2").number("0 1").due(RefusalSentences::sixPeople);

        table(11, "told", "-5: none such; -7: what.", -5, -7).number("0 3 | 1: -1 4 6" + FAR).number("0 6 | 2: -1 7" + FAR)
            .due(RefusalSentences::rich);
        table(11, "told", "-5: none such; -7: what.", -5, -7).number("0 5 | 1: -1 6").number("0 6 | 2: -1 7").due(RefusalSentences::sixPeople);

        table(12, "coin", "-5: none such; -6: no such SORT; -7: what.", -5, -6, -7).number("0 3 | 1: -1 4 6" + FAR)
            .number("0 5 | 2: -1 6" + FAR).number("0 1 | 3: -1 2" + FAR).due(RefusalSentences::rich);
    }

    private static void noneComes(String sentence) {
        alsoOf(5, sentence, "none comes");
        for (int many = 1; many <= 5; many++) {
            HatGoesRound x = tapeOf(161 - many);
            due(x, "feed " + many + " 57 57 57 57 57", -4);
            due(x, "count 5", 161 - many);
            // the ; that the TEXT still needs has room
            due("room for fewer", call(x, "feed " + Math.max(1, many - 1) + " 59 32 32 32 32"), many == 1 ? -4 : 160);
            due("the TEXT", call(x, "text"), many == 1 ? -260 : 1);
        }
    }

    private static void fullOfTexts() {
        of(6, "FULL (ahead of the FAULT; then THE TAPE stays).");
        String[] texts = {"", "!", "takes 1;sounds 1;costs 1;", "takes 1;sounds 1;costs", "takes ((((((1"};
        for (String text : texts) {
            HatGoesRound x = sixTexts();
            due("\"" + text + "\"", text(x, text), -4);
            due(x, "count 5", text.length());
            due(x, "text", -4);
            due(x, "count 5", text.length());
            due(x, "count 3", 6);
            due("room behind it", call(x, "feed 5 32 32 32 32 32"), text.length() + 5);
        }
        Observed.dueAsItWas(RefusalSentences::sixTexts, Arrays.asList("text", "text"));
    }

    // ---- turns, what is best

    private static void turnsAndWhatIsBest() {
        of(13, "STATE: there is nobody, the hat is empty.");
        due(nothing(), "pass", -3);
        due(nobody(), "pass", -3);
        due(emptyHat(), "pass", -3);
        due(does(emptyHat(), "fill 4 1 1"), "pass", 4);
        due(does(nobody(), "person 0 0"), "pass", 0);
        HatGoesRound x = does(emptyHat(), "fill 4 1 1, pass");
        due(x, "pass", -3);
        due(x, "count 2", 1);
        for (Supplier<HatGoesRound> state : Arrays.<Supplier<HatGoesRound>>asList(HatGoesRound::new, RefusalSentences::nobody, RefusalSentences::emptyHat)) {
            Observed.dueAsItWas(state, Arrays.asList("pass", "pass"));
        }

        table(14, "hand", "-5: none such.", -5).number("1: -1 4 6" + FAR).due(RefusalSentences::rich);
        table(14, "hand", "-5: none such.", -5).number("1: 0 -1").due(RefusalSentences::nobody);

        table(15, "run", "BAD.", BAD).number("0 120 | 1: -1 121" + FAR)
            .number("0 2 10 13 20 23 30 33 | 1: -1 3 9 14 15 16 19 24 29 34 39 40 43" + FAR).due(RefusalSentences::rich);
        table(15, "run", "BAD.", BAD).number("0 120").number("1: 10 20 30 -10 -20 -30").due(RefusalSentences::nobody);
        table(15, "run", "BAD.", BAD).number("0 120 | 1: -1 121").number("0 15 25 35 | 1: 16 26 36 40").due(RefusalSentences::sixPeople);
        table(16, "end", "BAD.", BAD).number("1: -1 3" + FAR).due(RefusalSentences::rich);
        table(16, "end", "BAD.", BAD).number("1: -1 3" + FAR).due(RefusalSentences::nobody);

        table(17, "first", "-5: none such; -7: what.", -5, -7).number("0 3 | 1: -1 4 6" + FAR).number("0 1 | 2: -1 2" + FAR)
            .due(RefusalSentences::rich);
        table(18, "vicar", "-5: none such; -7: what.", -5, -7).number("0 3 | 1: -1 4 6" + FAR).number("0 1 | 2: -1 2" + FAR)
            .due(RefusalSentences::rich);
        table(19, "seating", "BAD.", BAD).number("1: -1 2" + FAR).due(RefusalSentences::rich);
        table(19, "seating", "BAD.", BAD).number("1: -1 2" + FAR).due(RefusalSentences::nobody);

        of(20, "a sum (0 .. 999). BAD.");
        x = made("fill 5 0 99, fill 5 1 20, fill 0 1 20");
        due("10 times 99 and 9 times 1", call(x, "ways 999"), 1);
        due("10 times 99 and 8 times 1", call(x, "ways 998"), 1);
        due("none of them", call(x, "ways 0"), 1);
        dues(x, -2, "ways -1, ways 1000, ways MIN, ways MAX");
        table(20, "ways", "a sum (0 .. 999). BAD.", BAD).number("1: -1 1000" + FAR).due(RefusalSentences::rich);

        table(21, "share", "NO: none such, that is 0.", NO).number("0 3 | 1: -1 4 6" + FAR).number("0 1 | 1: -1 2" + FAR)
            .due(RefusalSentences::rich);
        alsoOf(21, "NO: none such, that is 0.", "that is 0");
        x = made("person 0 0, person 0 0, fill 3 0 0, fill 3 1 20");
        dues(x, NO, "share 0 0, share 0 1, share 1 0, share 1 1, share 2 0, share 0 2");
        does(x, "put 1 1 1");
        due(x, "share 0 0", 0);
        dues(x, 1, "share 0 1, share 1 0, share 1 1");
        does(x, "put 1 1 0, fill 3 0 1");
        due(x, "share 0 0", 0);
        due(x, "share 0 1", 1);
        Observed.dueAsItWas(() -> made("person 0 0"), Arrays.asList("share 0 0", "share 0 1"));
    }

    // ---- told rounds

    private static void toldRounds() {
        table(22, "judge", "BAD: SHEET; -11; BAD: it tells more than 30.", BAD, -11, BAD).number(SHEETS).due(RefusalSentences::rich);
        String[] names = {"kinds", "prides", "hats", "starts", "laws"};
        for (int i = 0; i < names.length; i++) {
            String sentence = i == 0 ? "BAD, -11, BAD likewise; -5: none such; -7: sort." : i == 1 ? "BAD, -11, BAD likewise; -5: none such; -7: what."
                : i == 2 ? "BAD, -11, BAD likewise; -5: no such SORT; -7: what." : "BAD, -11, BAD likewise.";
            RefusalTable table = table(23 + i, names[i], sentence, BAD, -11, BAD, -5, -7).number(SHEETS);
            if (i < 3) {
                table.number(i == 2 ? "0 5 | 4: -1 6" + FAR : "0 3 | 4: -1 4 6" + FAR).number("0 1 | 5: -1 2" + FAR);
            }
            table.due(RefusalSentences::rich);
            alsoOf(23 + i, sentence, "30 are not more than 30, 31 are");
            HatGoesRound x = made("person 0 0");
            for (int sort = 0; sort <= 2; sort++) {
                does(x, "sheet 0 " + sort + " 30, sheet 1 " + sort + " 31, sheet 2 " + sort + " 40, sheet 3 " + sort + " 0");
                String one = i < 3 ? " 0 0" : "";
                // all numbers are 0, and the hat is empty
                int[] all = {0b111111, 100, 1, 1, 1};
                due(x, names[i] + " 0" + one, all[i]);
                dues(x, -2, names[i] + " 1" + one, names[i] + " 2" + one);
                due("none are told", call(x, names[i] + " 3" + one), i == 2 ? 21 : all[i]);
            }
        }
        table(28, "film", "BAD: SHEET; -7: n.", BAD, -7).number("0 1 2 3 | 1: -1 4" + FAR).number("0 30 | 2: -1 31" + FAR)
            .due(RefusalSentences::rich);
    }

    // ---- hats by lots, images

    private static void lotsAndImages() {
        table(29, "drawn", "BAD.", BAD).number("0 99999 | 1: -1 100000" + FAR).number("0 30 | 1: -1 31" + FAR).number("0 1 | 1: -1 2" + FAR)
            .due(RefusalSentences::rich);
        table(29, "drawn", "BAD.", BAD).number("0 | 1: -1 100000").number("0 30 | 1: -1 31").number("0 1 | 1: -1 2").due(RefusalSentences::nobody);
        table(30, "odds", "NO: none such.", NO).number("0 99999 | 1: -1 100000" + FAR).number("1 40 | 1: 0 41 -1" + FAR)
            .number("0 3 | 1: -1 4 6" + FAR).number("0 1 | 1: -1 2" + FAR).due(RefusalSentences::rich);
        table(30, "odds", "NO: none such.", NO).number("0").number("1").number("1: 0 -1").number("0 1").due(RefusalSentences::nobody);

        of(32, "STATE: there is none.");
        due(nothing(), "back", -3);
        due(nobody(), "back", -3);
        due(emptyHat(), "back", -3);
        HatGoesRound x = emptyHat();
        dues(x, -3, "back, back");
        due(x, "count 0", 2);
        due(x, "told 0 1", 4);
        due(x, "image", 2);
        due(x, "back", 2);
        Observed.dueAsItWas(RefusalSentences::emptyHat, Arrays.asList("back", "back"));
        Observed.dueAsItWas(RefusalSentences::nobody, Arrays.asList("back"));
    }

    // ---- the host

    private static void theHost() {
        String sentence = "BAD: SHEET, sort, n above 40; -14.";
        table(33, "sheet", sentence, BAD, -14).number("0 1 2 3 | 1: -1 4" + FAR).number("0 2 | 1: -2 3" + FAR)
            .number("0 40 | 1: 41 MAX | 2: -1 MIN").due(RefusalSentences::rich);
        table(33, "sheet", sentence, BAD, -14).number("1: -1 4" + FAR).number("-1").number("0 41 -1").due(RefusalSentences::rich);

        table(34, "cell", "BAD: SHEET; -11; -12.", BAD, -11, -12).number("0 | 1: -1 4" + FAR + " | 2: 3").number("0 5 | 3: -1 6 40" + FAR)
            .number("0 5 MIN").due(RefusalSentences::rich);
        table(34, "cell", "BAD: SHEET; -11; -12.", BAD, -11, -12).number("2").number("0 30 | 3: -1 31" + FAR).number("0 5").due(RefusalSentences::rich);
        copies();
        pews();
        takens();
    }

    private static final int[] SIZES = {6, 8, 31};
    private static final String[] SOME_SHEETS = {"MIN", "-1", "0", "1", "2", "3", "4", "MAX"};

    /** Of a SHEET of the rich state: 1 it is none, 2 it is missing, 0 it is there. */
    private static int refusalsOfSheet(int s) {
        return s < 0 || s > 3 ? 1 : s == 3 ? 2 : 0;
    }

    private static int number(String word) {
        return word.equals("MIN") ? Integer.MIN_VALUE : word.equals("MAX") ? Integer.MAX_VALUE : Integer.parseInt(word);
    }

    private static boolean isOutside(int s, int place, int n) {
        return place < 0 || n < 0 || (refusalsOfSheet(s) == 0 && (long) place + n > SIZES[s]);
    }

    private static void copies() {
        RefusalTable table = table(35, "copy", "BAD: SHEETS; -11; -13: unlike sorts; -12 (n below 0, too).", BAD, -11, -13, -12);
        String[] places = {"MIN", "-1", "0", "3", "6", "7", "MAX"};
        String[] numbers = {"MIN", "-1", "0", "1", "6", "7", "MAX"};
        for (String s : SOME_SHEETS) {
            for (String other : SOME_SHEETS) {
                int refusals = refusalsOfSheet(number(s)) | refusalsOfSheet(number(other));
                refusals |= refusals == 0 && !s.equals(other) ? 4 : 0;
                for (String i : places) {
                    for (String j : places) {
                        for (String n : numbers) {
                            boolean outside = isOutside(number(s), number(i), number(n)) || isOutside(number(other), number(j), number(n));
                            table.add(refusals | (outside ? 8 : 0), "copy " + s + " " + i + " " + other + " " + j + " " + n);
                        }
                    }
                }
            }
        }
        table.dueOfMet(RefusalSentences::rich);
        alsoOf(35, "BAD: SHEETS; -11; -13: unlike sorts; -12 (n below 0, too).", "at the ends of two rows");
        HatGoesRound x = made("sheet 0 1 5, sheet 1 1 8, sheet 2 1 0");
        dues(x, 5, "copy 0 0 1 0 5, copy 0 0 1 3 5, copy 1 0 0 0 5, copy 1 3 0 0 5");
        dues(x, -12, "copy 0 0 1 4 5, copy 0 1 1 0 5, copy 1 0 0 1 5, copy 1 4 0 0 5, copy 1 0 0 0 6, copy 0 0 1 0 6");
        dues(x, 0, "copy 0 5 1 8 0, copy 2 0 2 0 0, copy 2 0 1 8 0");
        dues(x, -12, "copy 0 6 1 0 0, copy 0 0 1 9 0, copy 2 1 2 0 0, copy 2 0 2 1 0, copy 2 0 2 0 1, copy 0 -1 1 0 0, copy 0 0 1 -1 0, copy 0 0 1 0 -1");
    }

    private static void pews() {
        String sentence = "BAD: SHEET, sort, n; -11; -13; -12: what stood ahead came.";
        RefusalTable table = table(36, "pewBy", sentence, BAD, -11, -13, -12);
        // from each of these places but 0 the first pair is outside already, so that nobody comes ahead of the refusal
        for (String s : SOME_SHEETS) {
            for (String sort : new String[] {"MIN", "-1", "0", "1", "2", "3", "MAX"}) {
                for (String from : new String[] {"MIN", "-2", "-1", "0", "31", "40", "MAX"}) {
                    for (String n : new String[] {"MIN", "-1", "0", "1", "6", "7", "MAX"}) {
                        int refusals = refusalsOfSheet(number(s));
                        boolean badSort = number(sort) < 0 || number(sort) > 2;
                        refusals |= badSort || number(n) < 0 || number(n) > 6 ? 1 : 0;
                        refusals |= refusalsOfSheet(number(s)) == 0 && !badSort && !s.equals(sort) ? 4 : 0;
                        refusals |= !from.equals("0") && !n.equals("0") ? 8 : 0;
                        table.add(refusals, "pewBy " + s + " " + sort + " " + from + " " + n);
                    }
                }
            }
        }
        table.dueOfMet(RefusalSentences::rich);

        alsoOf(36, sentence, "at the ends of a row");
        for (int sort = 0; sort <= 2; sort++) {
            for (int size = 0; size <= 5; size++) {
                HatGoesRound x = made("sheet 0 " + sort + " " + size);
                due("a pair from " + (size - 1), call(x, "pewBy 0 " + sort + " " + (size - 1) + " 1"), -12);
                due("a pair from " + size, call(x, "pewBy 0 " + sort + " " + size + " 1"), -12);
                due("a pair from -1", call(x, "pewBy 0 " + sort + " -1 1"), -12);
                due(x, "count 0", 0);
                due("a pair from " + (size - 2), call(x, "pewBy 0 " + sort + " " + (size - 2) + " 1"), size < 2 ? -12 : 1);
                due(x, "count 0", size < 2 ? 0 : 1);
            }
        }

        alsoOf(36, sentence, "what stood ahead came");
        HatGoesRound x = row(nothing(), 0, 0, 11, 12, 60, 0, 13, 14, 15);
        due(x, "pewBy 0 0 0 4", -12);
        due(x, "count 0", 2);
        due(x, "told 0 0", 12);
        due(x, "told 0 4", 1);
        due(x, "told 1 0", 14);
        due(x, "told 1 4", 3);
        due(x, "pewBy 0 0 1 6", -12);
        // 12 and 60, 0 and 13, 14 and 15
        due(x, "count 0", 5);
        due(x, "told 2 0", 60);
        due(x, "told 3 0", 13);
        due(x, "told 4 0", 15);
        due(x, "pewBy 0 0 0 6", -12);
        due("room for one of them", call(x, "count 0"), 6);
        due(x, "told 5 0", 12);
        due("a full pew", call(x, "pewBy 0 0 0 6"), -12);
        due("a full pew", call(x, "pewBy 0 0 0 3"), 0);
        x = made("sheet 0 2 40");
        due("the last two", call(x, "pewBy 0 2 38 2"), -12);
        due("the last two", call(x, "count 0"), 1);
        due("none is asked for", call(x, "pewBy 0 2 40 0"), 0);
        Observed.dueAsItWas(RefusalSentences::sixPeople, Arrays.asList("pewBy 1 1 0 6", "pewBy 0 0 4 6", "pewBy 2 2 0 6"));
    }

    private static void takens() {
        // who is who in the rich state: a PERSON, a RICH, a STIRRING, a WIDOW, nobody, nobody
        String[] is = {"1.....", "11....", "11.1..", "1.1.1."};
        RefusalTable table = table(37, "taken", "BAD: kind; -12: i; -11: none such; -13.", BAD, -12, -11, -13);
        for (String place : new String[] {"MIN", "-1", "0", "1", "2", "3", "4", "5", "6", "11", "12", "MAX"}) {
            for (String kind : new String[] {"MIN", "-1", "0", "1", "2", "3", "4", "5", "6", "7", "MAX"}) {
                int i = number(place);
                int k = number(kind);
                boolean bad = k < 0 || k > 6;
                boolean outside = i < 0 || i > 11;
                boolean none = i == 4 || i == 5;
                boolean other = i >= 6 && i <= 11 ? k != 6 : k == 6 || (i >= 0 && i < 4 && !bad && is[i].charAt(k) != '1');
                int refusals = (bad ? 1 : 0) | (outside ? 2 : 0) | (none ? 4 : 0) | (!outside && other ? 8 : 0);
                table.add(refusals, "taken " + place + " " + kind);
            }
        }
        table.dueOfMet(RefusalSentences::rich);
    }

    // ---- REFUSALS

    private static void ofSeveralTheFirst() {
        of(11, "REFUSALS, of several the first one told (a -1 that is an answer comes behind the refusal of a number):");
        HatGoesRound x = emptyHat();
        due("-1 that is an answer", call(x, "told 0 6"), -1);
        due(x, "told 2 6", -5);
        due(x, "told 0 7", -7);
        due("-1 that is an answer", call(x, "end 0"), -1);
        dues(x, -2, "end 3, end -1");
        due("-1 that is an answer", call(x, "vicar 0 0"), -1);
        due(x, "vicar 2 0", -5);
        due(x, "vicar 0 2", -7);
        due(x, "vicar 2 2", -5);
        tells(x, 1);
        dues(x, -1, "prides 0 0 1, hats 0 5 1");
        dues(x, -7, "prides 0 0 2, hats 0 5 2");
        dues(x, -5, "prides 0 2 2, hats 0 6 2");
        due("-1 that is an answer", call(x, "drawn 0 0 1"), -1);
        dues(x, -2, "drawn 0 -1 1, drawn -1 0 1, drawn 0 0 2");
        tells(x);
        due("-1 that is an answer", call(x, "judge 0"), -1);
        dues(x, -11, "judge 1, kinds 1 9 9, starts 1, laws 1");
        dues(nobody(), -1, "end 0, end 1, end 2");
        dues(nobody(), -2, "end 3, run 121 0, run 0 10, seating 2, drawn 0 31 1");
    }

    private static void changeNothing() {
        of(36, "They change nothing, but where it is told.");
        List<String> refused = Arrays.asList("count 7", "fill 6 0 1", "fill 0 2 1", "fill 0 0 100", "fill 0 1 21", "hat 6 0", "feed 6 1 1 1 1 1",
            "feed 1 1 1 1 1 256", "force 2", "asks 3 0 0", "person 60 0", "person 0 100", "put 4 0 1", "put 0 2 1", "put 0 0 100", "put 0 1 10000",
            "told 4 0", "coin 0 6 0", "hand 4", "run 121 0", "end 3", "first 4 0", "vicar 0 2", "seating 2", "ways 1000", "share 4 0", "judge 2",
            "kinds 0 4 0", "prides 0 0 2", "hats 3 0 0", "starts 4", "laws 3", "film 0 31", "film 3 -1", "drawn 100000 1 0", "odds 0 41 0 0",
            "sheet 0 0 41", "sheet 0 0 -1", "sheet 3 3 1", "cell 0 6 1", "cell 3 0 1", "copy 0 0 1 0 1", "copy 0 3 0 0 4", "pewBy 0 1 0 1",
            "pewBy 0 0 5 1", "taken 4 0", "taken 0 6");
        HatGoesRound x = rich();
        for (String words : refused) {
            due(words + " is refused", call(x, words) < -1 ? 1 : 0, 1);
            Observed.dueAsItWas(RefusalSentences::rich, Arrays.asList(words));
        }
        Observed.dueAsItWas(RefusalSentences::rich, refused);
        due("told: by a FAULT THE TAPE is empty", call(rich(), "text"), -108);
        x = rich();
        call(x, "text");
        due(x, "count 5", 0);
        due("told: what stood ahead came", call(x, "pewBy 1 1 6 2"), -12);
        due(x, "count 0", 5);
    }

    // ---- what is asked

    /** What a call changes is made as it was by another: then all is as it was. */
    private static void whatIsToldChangesNoMore() {
        String sentence = "What is asked changes nothing, but where it is told.";
        alsoOf(3, sentence, "a fill changes that number, no more");
        Observed.dueAsItWas(RefusalSentences::rich, Arrays.asList("fill 0 0 99", "fill 0 0 1", "fill 2 0 0", "fill 2 0 7"));
        long many = call(rich(), "hat 0 1");
        Observed.dueAsItWas(RefusalSentences::rich, Arrays.asList("fill 0 1 20", "fill 0 1 0", "fill 0 1 " + many));
        alsoOf(7, sentence, "THE LAW is another, no more");
        Observed.dueAsItWas(RefusalSentences::rich, Arrays.asList("force 0", "force 1"));
        alsoOf(10, sentence, "a put changes that number, no more");
        long pride = call(rich(), "told 0 0");
        Observed.dueAsItWas(RefusalSentences::rich, Arrays.asList("put 0 0 99", "put 0 0 0", "put 0 0 " + pride, "put 2 1 9999", "put 2 1 0",
            "put 2 1 " + call(rich(), "told 2 1")));
        alsoOf(14, sentence, "TURN is another, no more");
        Observed.dueAsItWas(RefusalSentences::rich, Arrays.asList("hand 0", "hand 3", "hand 1", "hand " + call(rich(), "count 6")));
        alsoOf(34, sentence, "a cell changes that number, no more");
        Observed.dueAsItWas(RefusalSentences::rich, Arrays.asList("cell 1 0 99", "cell 1 0 11", "cell 1 7 0", "cell 1 7 18", "cell 2 1 9", "cell 2 1 22"));
        alsoOf(35, sentence, "a copy changes the other SHEET, no more");
        Observed.dueAsItWas(RefusalSentences::rich, Arrays.asList("copy 1 0 1 7 1", "cell 1 7 18", "copy 1 0 1 1 7", "copy 1 1 1 0 7", "cell 1 7 18"));
        Supplier<HatGoesRound> kept = () -> does(rich(), "image");
        alsoOf(9, sentence, "one comes, no more");
        Observed.dueAsItWas(kept, Arrays.asList("person 59 99", "back"));
        alsoOf(13, sentence, "a TURN changes what it tells, no more");
        Observed.dueAsItWas(kept, Arrays.asList("pass", "pass", "back"));
        alsoOf(36, sentence, "some come, no more");
        Observed.dueAsItWas(kept, Arrays.asList("pewBy 1 1 0 3", "back"));
        alsoOf(6, sentence, "by a FAULT THE TAPE is empty, no more");
        Observed.dueAlike(() -> doesAny(rich(), "text"), () -> doesAny(rich(), "feed 5 40 41 42 43 44", "text"), "a feed, a FAULT");
        alsoOf(5, sentence, "bytes come, no more");
        Observed.dueAlike(() -> doesAny(rich(), "feed 5 110 100 115 32 49", "feed 5 59 0 0 0 0", "text"),
            () -> doesAny(rich(), "feed 2 110 100 0 0 0", "feed 3 115 32 49 0 0", "feed 5 59 0 0 0 0", "text"), "by two and three");
        alsoOf(32, sentence, "an image that is back changes no more");
        Observed.dueAsItWas(kept, Arrays.asList("back", "back"));
    }

    private static HatGoesRound doesAny(HatGoesRound x, String... calls) {
        for (String words : calls) {
            call(x, words);
        }
        return x;
    }

    private static void askedChangesNothing() {
        String[][] asked = {
            {"2", "count 0", "count 1", "count 2", "count 3", "count 4", "count 5", "count 6"},
            {"4", "hat 0 0", "hat 5 1", "hat 0 2", "hat 9 2"},
            {"8", "asks 0 0 -1", "asks 1 3 5", "asks 2 2 0"},
            {"11", "told 0 0", "told 1 1", "told 2 2", "told 3 3", "told 0 4", "told 2 5", "told 3 6"},
            {"12", "coin 0 0 0", "coin 3 5 1", "coin 2 2 0"},
            {"15", "run 0 0", "run 1 1", "run 120 2", "run 7 10", "run 9 23", "run 120 31"},
            {"16", "end 0", "end 1", "end 2"},
            {"17", "first 0 0", "first 3 1"},
            {"18", "vicar 0 0", "vicar 1 0", "vicar 2 1", "vicar 3 1"},
            {"19", "seating 0", "seating 1"},
            {"20", "ways 0", "ways 999", "ways 12"},
            {"21", "share 0 0", "share 2 1"},
            {"22", "judge 0", "judge 1"},
            {"23", "kinds 0 0 0", "kinds 0 1 1", "kinds 1 3 0", "kinds 1 3 1"},
            {"24", "prides 0 0 0", "prides 0 1 1", "prides 1 3 1"},
            {"25", "hats 0 0 0", "hats 0 5 1", "hats 1 2 0"},
            {"26", "starts 0", "starts 1"},
            {"27", "laws 0", "laws 1"},
            {"29", "drawn 0 0 0", "drawn 99999 30 0", "drawn 7 20 1"},
            {"30", "odds 0 1 0 0", "odds 99999 40 3 1"},
            {"37", "taken 0 0", "taken 3 2", "taken 6 6", "taken 11 6"},
        };
        List<String> all = new ArrayList<>();
        for (String[] calls : asked) {
            of(Integer.parseInt(calls[0]), "What is asked changes nothing, but where it is told.");
            for (int i = 1; i < calls.length; i++) {
                due(calls[i] + " is answered", call(rich(), calls[i]) >= -1 ? 1 : 0, 1);
                Observed.dueAsItWas(RefusalSentences::rich, Arrays.asList(calls[i]));
                Observed.dueAsItWas(RefusalSentences::sixPeople, Arrays.asList(calls[i]));
                all.add(calls[i]);
            }
            Observed.dueAsItWas(RefusalSentences::nobody, Arrays.asList(calls).subList(1, calls.length));
        }
        alsoOf(2, "What is asked changes nothing, but where it is told.", "all of it one behind the other");
        Observed.dueAsItWas(RefusalSentences::rich, all);
        alsoOf(28, "What is asked changes nothing, but where it is told.", "a film changes its SHEET, no more");
        Observed.dueAsItWas(RefusalSentences::rich, Arrays.asList("film 3 30", "film 3 2", "sheet 3 -1 0", "film 0 6"));
        alsoOf(31, "What is asked changes nothing, but where it is told.", "an image changes the image, no more");
        Observed.dueAsItWas(() -> does(rich(), "image"), Arrays.asList("image", "image"));
        whatIsToldChangesNoMore();
    }
}
