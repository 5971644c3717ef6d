/** A test of each sentence of promises 1 to 37, but for those of refusals, which RefusalSentences tests. */
final class PromiseSentences extends Checks {
    private PromiseSentences() { }

    static void all() {
        theHat();
        theTape();
        people();
        turns();
        runAndEnd();
        firstAndVicar();
        seating();
        waysAndShare();
        judge();
        kindsAndPrides();
        hatsStartsLaws();
        film();
        lots();
        imageAndBack();
        sheetAndCell();
        copy();
        pewByAndTaken();
    }

    private static String fills(int what, int... of) {
        StringBuilder calls = new StringBuilder();
        for (int w = 0; w < of.length; w++) {
            calls.append(w == 0 ? "" : ",").append("fill ").append(w).append(' ').append(what).append(' ').append(of[w]);
        }
        return calls.toString();
    }

    /** So many coins of each SORT. */
    private static String hat(int... many) {
        return fills(1, many);
    }

    private static String worths(int... worths) {
        return fills(0, worths);
    }

    private static final String FULL_HAT = hat(20, 20, 20, 20, 20, 20);
    /** One of each KIND, with MORE as much, and PRIDE 1, 12, 23, .. 56. */
    private static final String SIX = "person 0 1, person 11 12, person 22 23, person 33 34, person 44 45, person 55 56";

    /** So many PERSONS of PRIDE 8. */
    private static HatGoesRound pew(int people) {
        HatGoesRound x = nothing();
        for (int p = 0; p < people; p++) {
            does(x, "person 0 8");
        }
        return x;
    }

    /** Two PERSONS of PRIDE 10 and 40, and coins of WORTH 1, 1, 1, 8, 8, 32: they take 8, 32, 8, 1, 1, 1. */
    private static HatGoesRound smallPew() {
        return made("person 0 10, person 0 40", hat(3, 0, 0, 2, 0, 1));
    }

    private static int[] times(int many, int number, int... more) {
        int[] all = new int[many + more.length];
        for (int i = 0; i < all.length; i++) {
            all[i] = i < many ? number : more[i - many];
        }
        return all;
    }

    // ---- the hat, the law, people

    private static void theHat() {
        of(1, "Nobody, an empty hat.");
        HatGoesRound x = nothing();
        dues(x, 0, "count 0, count 1, count 2, count 4, count 5, count 6, hat 0 2");
        due(x, "count 3", 1);
        for (int i = 0; i < 6; i++) {
            due(x, "told " + i + " 0", -5);
            due(x, "hat " + i + " 1", 0);
            due(x, "hat " + i + " 0", 1 << i);
            due(x, "taken " + i + " 0", -11);
        }
        dues(x, -11, "judge 0, judge 1, judge 2, judge 3");
        due(x, "back", -3);
        due(x, "pass", -3);
        does(x, "person 0 8", "fill 0 1 3", "fill 3 0 9");
        due("another new object", call(nothing(), "count 0"), 0);
        due("another new object", call(nothing(), "hat 3 0"), 8);

        of(2, "0 PEOPLE,");
        x = nothing();
        for (int p = 0; p <= 6; p++) {
            due(x, "count 0", p);
            call(x, "person 0 0");
        }
        due(x, "count 0", 6);

        of(2, "1 coins IN THE HAT,");
        x = made("person 0 0");
        due(x, "count 1", 0);
        for (int w = 0; w < 6; w++) {
            does(x, "fill " + w + " 1 20");
            due(x, "count 1", 20 * w + 20);
        }
        does(x, "pass");
        due(x, "count 1", 119);
        does(x, hat(0, 0, 0, 0, 0, 1));
        due(x, "count 1", 1);
        does(x, "pass");
        due(x, "count 1", 0);

        of(2, "2 TURNS,");
        x = made("person 0 0", "fill 0 1 2");
        due(x, "count 2", 0);
        does(x, "pass");
        due(x, "count 2", 1);
        does(x, "pass");
        due(x, "count 2", 2);

        of(2, "3 TEXTS,");
        x = nothing();
        due(x, "count 3", 1);
        for (int t = 1; t <= 5; t++) {
            text(x, "takes 1;sounds 1;costs 1;");
            due(x, "count 3", t + 1);
        }

        of(2, "4 THE LAW,");
        due(x, "count 4", 0);
        for (int t = 5; t >= 0; t--) {
            does(x, "force " + t);
            due(x, "count 4", t);
        }

        of(2, "5 bytes of THE TAPE,");
        x = nothing();
        for (int n = 0; n <= 160; n++) {
            due(x, "count 5", n);
            call(x, "feed 1 32 0 0 0 0");
        }
        due(x, "count 5", 160);
        call(x, "text");
        due(x, "count 5", 0);

        of(2, "6 TURN.");
        x = made(SIX);
        due(x, "count 6", 0);
        for (int p = 5; p >= 0; p--) {
            does(x, "hand " + p);
            due(x, "count 6", p);
        }

        of(3, "WORTH (what 0), how many are IN THE HAT (1) of a SORT becomes v: what it was.");
        x = nothing();
        for (int w = 0; w < 6; w++) {
            due(x, "fill " + w + " 0 " + (50 + w), 1 << w);
            due(x, "fill " + w + " 1 " + (10 + w), 0);
        }
        for (int w = 0; w < 6; w++) {
            due(x, "hat " + w + " 0", 50 + w);
            due(x, "hat " + w + " 1", 10 + w);
            due(x, "fill " + w + " 0 0", 50 + w);
            due(x, "fill " + w + " 1 0", 10 + w);
            due(x, "fill " + w + " 0 99", 0);
            due(x, "fill " + w + " 1 20", 0);
            due(x, "fill " + w + " 0 99", 99);
            due(x, "fill " + w + " 1 20", 20);
        }

        of(4, "What 0 WORTH, 1 how many are IN THE HAT of a SORT;");
        x = made("fill 0 0 99, fill 5 0 0, fill 0 1 20, fill 5 1 1");
        due(x, "hat 0 0", 99);
        due(x, "hat 5 0", 0);
        due(x, "hat 4 0", 16);
        due(x, "hat 0 1", 20);
        due(x, "hat 5 1", 1);
        due(x, "hat 4 1", 0);

        of(4, "2 WORTH of all that are, together (w does not matter).");
        x = nothing();
        dues(x, 0, "hat 0 2, hat -1 2, hat 6 2, hat MIN 2, hat MAX 2");
        does(x, hat(1, 2, 3, 4, 5, 6));
        dues(x, 1 + 4 + 12 + 32 + 80 + 192, "hat 0 2, hat 5 2, hat -1 2, hat 6 2, hat MIN 2, hat MAX 2");
        does(x, FULL_HAT, worths(99, 99, 99, 99, 99, 99));
        dues(x, 11880, "hat 0 2, hat 6 2");
    }

    private static void theTape() {
        of(5, "The first n (1 .. 5) of five bytes (0 .. 255 each)");
        String law = "takes 77;sounds 2;costs 3;";
        for (int n = 1; n <= 5; n++) {
            HatGoesRound x = made("person 0 0");
            for (int i = 0; i < law.length(); i += n) {
                int many = Math.min(n, law.length() - i);
                StringBuilder words = new StringBuilder("feed " + many);
                for (int k = 0; k < 5; k++) {
                    words.append(' ').append(k < many ? (int) law.charAt(i + k) : '9');
                }
                due(x, words.toString(), i + many);
            }
            due("text() of " + n + " by " + n, call(x, "text"), 1);
            does(x, "force 1");
            due(x, "asks 0 0 0", 77);
            due(x, "asks 1 0 0", 2);
            due(x, "asks 2 0 0", 3);
        }
        HatGoesRound x = nothing();
        due(x, "feed 5 0 0 0 0 0", 5);
        due(x, "feed 5 255 255 255 255 255", 10);
        due(x, "feed 1 255 0 255 0 255", 11);

        of(5, "come behind THE TAPE's, one by one: how many it has.");
        x = nothing();
        due(x, "feed 2 116 97 0 0 0", 2);
        due(x, "feed 3 107 101 115 0 0", 5);
        due(x, "feed 1 32 0 0 0 0", 6);
        due(x, "feed 5 49 33 49 49 49", 11);
        // "takes 1!111"
        due(x, "text", -107);
        due(x, "feed 4 1 1 1 1 1", 4);

        of(6, "THE TAPE, which is empty then (by a FAULT, too),");
        x = nothing();
        due("a TEXT", text(x, "takes 1;sounds 2;costs 3;"), 1);
        due(x, "count 5", 0);
        due("nothing is left of it", call(x, "text"), -100);
        due("a FAULT", text(x, "takes 1;sounds 2;costs !"), -123);
        due(x, "count 5", 0);
        due(x, "count 3", 2);
        due("nothing is left of it", text(x, "takes 1;"), -108);
        due("letters", text(x, "a".repeat(160)), -100);
        due("none of them is left", text(x, "takes pride"), -111);
        due("digits", text(x, "1".repeat(160)), -100);
        due("none of them is left", text(x, "takes 1"), -107);
        due("blanks", text(x, " ".repeat(160)), -260);
        due("none of them is left", text(x, "takes"), -105);
        due("a FAULT at once", text(x, "!takes 1;sounds 2;costs 3;"), -100);
        due(x, "count 5", 0);
        due("a TEXT", text(x, "takes 4;sounds 5;costs 6;"), 2);
        does(x, "person 0 0, force 2");
        due(x, "asks 0 0 0", 4);
        due(x, "asks 1 0 0", 5);
        due(x, "asks 2 0 0", 6);

        of(6, "is a TEXT: its number;");
        x = made("person 0 0");
        for (int t = 1; t <= 5; t++) {
            due("text " + t, text(x, "takes 1" + t + ";sounds 2" + t + ";costs 3" + t + ";"), t);
        }
        for (int t = 1; t <= 5; t++) {
            does(x, "force " + t);
            due("text " + t, call(x, "asks 0 0 0"), 10 + t);
            due("text " + t, call(x, "asks 1 0 0"), 20 + t);
            due("text " + t, call(x, "asks 2 0 0"), 30 + t);
        }

        x = made("person 0 0");
        for (int t = 1; t <= 5; t++) {
            due("a long text " + t, text(x, "takes 1" + "+1".repeat(10 * t) + ";sounds 1" + t + ";costs 1" + "+1".repeat(60 - 10 * t) + ";"), t);
            due("a FAULT behind it", text(x, "takes 1" + "+1".repeat(70) + ";"), t < 5 ? -248 : -4);
        }
        for (int t = 1; t <= 5; t++) {
            does(x, "force " + t);
            due("text " + t, call(x, "asks 0 0 0"), 10 * t + 1);
            due("text " + t, call(x, "asks 1 0 0"), 10 + t);
            due("text " + t, call(x, "asks 2 0 0"), 61 - 10 * t);
        }

        of(6, "-100 less the place of its FAULT.");
        due("place 0", text(nothing(), ""), -100);
        due("place 0", text(nothing(), ")"), -100);
        due("place 6", text(nothing(), "takes )"), -106);
        due("place 159", text(nothing(), " ".repeat(159) + ")"), -259);
        due("place 160", text(nothing(), " ".repeat(160)), -260);
        x = nothing();
        for (int i = 0; i < 6; i++) {
            due("a FAULT is no TEXT", text(x, "takes"), -105);
        }
        due(x, "count 3", 1);

        of(7, "A TEXT is THE LAW: which was.");
        x = nothing();
        due(x, "force 0", 0);
        for (int t = 1; t <= 5; t++) {
            text(x, "takes " + t + ";sounds 2;costs 3;");
        }
        due(x, "force 5", 0);
        due(x, "count 4", 5);
        due(x, "force 1", 5);
        due(x, "force 1", 1);
        due(x, "force 0", 1);
        due(x, "count 4", 0);

        of(8, "What part 0 takes, 1 sounds, 2 costs says of one of PEOPLE and a SORT (-1: none; worth 0).");
        x = law(made("person 0 10, person 0 20, person 0 30, person 0 40, person 0 50, person 9 60"), "pride+worth", "pride-worth", "worth-pride");
        for (int p = 0; p < 6; p++) {
            int pride = 10 * p + 10;
            for (int w = 0; w < 6; w++) {
                due(x, "asks 0 " + p + " " + w, Math.min(99, pride + (1 << w)));
                due(x, "asks 1 " + p + " " + w, Math.max(0, pride - (1 << w)));
                due(x, "asks 2 " + p + " " + w, (1 << w) - pride);
            }
            due(x, "asks 0 " + p + " -1", pride);
            due(x, "asks 1 " + p + " -1", pride);
            due(x, "asks 2 " + p + " -1", -pride);
        }

        x = law(made(SIX), "50+more", "60+more", "70+more");
        for (int p = 0; p < 6; p++) {
            for (int w = -1; w < 6; w++) {
                due("whatever KIND", call(x, "asks 0 " + p + " " + w), 50 + p);
                due("whatever KIND", call(x, "asks 1 " + p + " " + w), 60 + p);
                due("whatever KIND", call(x, "asks 2 " + p + " " + w), 70 + p);
            }
        }

        of(8, "It takes those of the call for any part.");
        x = law(made("person 0 10, person 5 70, fill 5 0 88, fill 4 0 0"), "worth", "worth", "worth");
        dues(x, 88, "asks 0 0 5, asks 1 0 5, asks 2 0 5, asks 0 1 5");
        dues(x, 0, "asks 0 0 4, asks 1 0 4, asks 2 0 4, told 0 5, told 1 5");
    }

    private static void people() {
        of(9, "One of PEOPLE (kindMore: 10 times KIND, and MORE; proud: PRIDE): the number.");
        int[][] ones = {{0, 0}, {9, 99}, {10, 1}, {59, 98}, {50, 50}, {27, 3}};
        HatGoesRound x = nothing();
        for (int p = 0; p < 6; p++) {
            due(x, "person " + ones[p][0] + " " + ones[p][1], p);
        }
        for (int p = 0; p < 6; p++) {
            due(x, "told " + p + " 3", ones[p][0] / 10);
            due(x, "told " + p + " 4", ones[p][0] % 10);
            due(x, "told " + p + " 0", ones[p][1]);
            due(x, "told " + p + " 1", 0);
            due(x, "told " + p + " 2", 0);
        }

        of(10, "PRIDE (what 0), PURSE (1) becomes v: what it was.");
        x = made(SIX);
        for (int p = 0; p < 6; p++) {
            due(x, "put " + p + " 0 99", 11 * p + 1);
            due(x, "put " + p + " 0 0", 99);
            due(x, "put " + p + " 0 " + (60 + p), 0);
            due(x, "put " + p + " 1 9999", 0);
            due(x, "put " + p + " 1 0", 9999);
            due(x, "put " + p + " 1 " + (700 + p), 0);
        }
        for (int p = 0; p < 6; p++) {
            due(x, "told " + p + " 0", 60 + p);
            due(x, "told " + p + " 1", 700 + p);
            due(x, "told " + p + " 2", 0);
        }

        of(11, "What 0 PRIDE, 1 PURSE, 2 LOUD, 3 KIND, 4 MORE,");
        x = made(SIX, "fill 2 1 6");
        int[] prides = {0, 11, 21, 33, 47, 56};
        int[] louds = {4, 5, 4, 21, 0, 4};
        for (int p = 0; p < 6; p++) {
            does(x, "pass");
        }
        for (int p = 0; p < 6; p++) {
            due(x, "told " + p + " 0", prides[p]);
            due(x, "told " + p + " 1", 4);
            due(x, "told " + p + " 2", louds[p]);
            due(x, "told " + p + " 3", p);
            due(x, "told " + p + " 4", p);
        }

        of(11, "5 how much one TAKES,");
        x = made(SIX);
        int[] takes = {1, 3, 33, 3, 65, 99};
        for (int p = 0; p < 6; p++) {
            due(x, "told " + p + " 5", takes[p]);
        }
        does(x, "put 0 0 99, put 1 0 99, put 2 0 99, put 3 0 99, put 4 0 99, put 5 0 0");
        int[] most = {99, 24, 109, 3, 119, 99};
        for (int p = 0; p < 6; p++) {
            due(x, "told " + p + " 5", most[p]);
        }

        of(11, "6 THE COIN of one now (-1).");
        x = made(SIX);
        dues(x, -1, "told 0 6, told 1 6, told 2 6, told 3 6, told 4 6, told 5 6");
        does(x, hat(1, 1, 1, 1, 1, 1));
        int[] coins = {0, 1, 5, 1, 5, 5};
        for (int p = 0; p < 6; p++) {
            due(x, "told " + p + " 6", coins[p]);
        }
        does(x, "fill 5 1 0");
        due(x, "told 5 6", 4);

        of(12, "Of one and a SORT: how a coin SOUNDS (what 0),");
        x = made(SIX);
        for (int w = 0; w < 6; w++) {
            int worth = 1 << w;
            int[] sounds = {worth, worth + 1, worth, 3 * (worth + 3), 0, worth};
            for (int p = 0; p < 6; p++) {
                due(x, "coin " + p + " " + w + " 0", sounds[p]);
            }
        }

        of(12, "how much it COSTS (1; 1000 more).");
        x = law(made(SIX), "0", "0", "worth-16");
        for (int w = 0; w < 6; w++) {
            int says = (1 << w) - 16;
            int[] costs = {says, says, 2 * says, says, 2 * says - 4, 0};
            for (int p = 0; p < 6; p++) {
                due(x, "coin " + p + " " + w + " 1", 1000 + costs[p]);
            }
        }
    }

    // ---- turns

    private static void turns() {
        of(13, "A TURN, truly: which SORT is taken.");
        HatGoesRound x = made("person 0 99", hat(1, 1, 1, 1, 1, 1));
        for (int w = 5; w >= 0; w--) {
            due(x, "pass", w);
            due(x, "hat " + w + " 1", 0);
            due(x, "count 1", w);
            due(x, "count 2", 6 - w);
            due(x, "count 6", 0);
        }
        due(x, "told 0 1", 63);
        due(x, "told 0 2", 32);
        due(x, "told 0 0", 93);

        of(14, "One has the hat, truly: who had it (TURN).");
        x = made(SIX, "fill 0 1 9");
        due(x, "hand 0", 0);
        due(x, "hand 5", 0);
        due(x, "hand 5", 5);
        due(x, "hand 2", 5);
        due(x, "count 6", 2);
        does(x, "pass");
        due(x, "told 2 1", 1);
        due(x, "hand 0", 3);
        due(x, "count 2", 1);
    }

    private static void runAndEnd() {
        of(15, "n TURNS (0 .. 120),");
        HatGoesRound x = made(SIX, FULL_HAT);
        for (int n = 0; n <= 120; n++) {
            due(x, "run " + n + " 0", 120 - n);
            due(x, "run " + n + " 2", n % 6);
        }
        dues(x, -2, "run -1 0, run 121 0, run MIN 0, run MAX 0");

        of(15, "none any more from when the hat is empty, in thought:");
        x = made("person 0 8, person 0 8, person 0 8, fill 0 1 4");
        int[] turn = {0, 1, 2, 0, 1, 1, 1};
        for (int n = 0; n < turn.length; n++) {
            due(x, "run " + n + " 2", turn[n]);
        }
        due(x, "run 120 2", 1);
        due(x, "run 120 20", 6);
        dues(x, 0, "count 2, count 6, told 0 1, told 0 2, run 0 10");
        due(x, "count 1", 4);
        due(x, "told 0 0", 8);

        // all of PEOPLE, all SORTS, as they are, THE LAW too
        x = law(made("person 0 1, person 0 1, person 0 1, person 0 1, person 0 1, person 49 50"), "more", "worth", "more-coins");
        does(x, fills(0, 5, 6, 7, 8, 9, 45), hat(1, 1, 1, 1, 1, 1), "hand 5");
        // she takes 45 by MORE 9, 45 more; it costs twice 9 - 6, less 9
        due("PURSE of the last", call(x, "run 1 15"), 45);
        due("PRIDE of the last", call(x, "run 1 25"), 53);
        due("WORTH of the others", call(x, "run 1 1"), 35);

        of(15, "how many coins are IN THE HAT then (what 0),");
        // 1 takes 32, 8, 2; 0 takes 16, 4, 1
        x = made("person 0 31, person 0 99", "hand 1", hat(1, 1, 1, 1, 1, 1));
        for (int n = 0; n < 8; n++) {
            due(x, "run " + n + " 0", Math.max(0, 6 - n));
        }
        due(nothing(), "run 3 0", 0);

        of(15, "WORTH of all these (1),");
        int[] left = {63, 31, 15, 7, 3, 1, 0, 0};
        for (int n = 0; n < left.length; n++) {
            due(x, "run " + n + " 1", left[n]);
        }
        due(x, "run 120 1", 0);
        due(made(FULL_HAT, worths(99, 99, 99, 99, 99, 99)), "run 120 1", 11880);

        of(15, "TURN (2),");
        for (int n = 0; n < 8; n++) {
            due(x, "run " + n + " 2", n > 6 ? 1 : (n + 1) % 2);
        }
        due(made("fill 0 1 3"), "run 9 2", 0);

        of(15, "PURSE of who is numbered what less 10 (10 ..),");
        int[] purses0 = {0, 0, 16, 16, 20, 20, 21, 21};
        int[] purses1 = {0, 32, 32, 40, 40, 42, 42, 42};
        for (int n = 0; n < 8; n++) {
            due(x, "run " + n + " 10", purses0[n]);
            due(x, "run " + n + " 11", purses1[n]);
        }

        of(15, "PRIDE of who is numbered what less 20 (20 ..),");
        for (int n = 0; n < 8; n++) {
            due(x, "run " + n + " 20", 31 - Math.min(6, n) / 2);
            due(x, "run " + n + " 21", 99 - (Math.min(6, n) + 1) / 2);
        }

        of(15, "LOUD of who is numbered what less 30 (30 ..).");
        for (int n = 0; n < 8; n++) {
            due(x, "run " + n + " 30", n < 2 ? 0 : 16);
            due(x, "run " + n + " 31", n < 1 ? 0 : 32);
        }
        x = made(SIX);
        for (int p = 0; p < 6; p++) {
            does(x, "put " + p + " 1 " + (100 + p));
        }
        for (int p = 0; p < 6; p++) {
            due(x, "run 1 " + (10 + p), 100 + p);
            due(x, "run 1 " + (20 + p), 11 * p + 1);
            due(x, "run 1 " + (30 + p), 0);
        }

        endOfAll();
    }

    private static void endOfAll() {
        of(16, "By TURNS till the hat is empty, in thought: who takes the last coin (what 0; -1: it is empty, there is nobody),");
        for (int people = 1; people <= 6; people++) {
            HatGoesRound x = pew(people);
            due(x, "end 0", -1);
            does(x, "fill 0 1 1");
            due(x, "end 0", 0);
            does(x, "fill 0 1 20");
            due(x, "end 0", 19 % people);
            does(x, FULL_HAT);
            due(x, "end 0", 119 % people);
            does(x, "hand " + (people - 1));
            due(x, "end 0", (people - 1 + 119) % people);
            due(x, "count 1", 120);
            due(x, "count 2", 0);
            due(x, "count 6", people - 1);
            due(x, "told 0 1", 0);
        }
        due(made("fill 0 1 3"), "end 0", -1);
        due(nothing(), "end 0", -1);

        of(16, "who has most in the PURSE then (1),");
        HatGoesRound x = smallPew();
        // 17 and 34
        due(x, "end 1", 1);
        does(x, "put 0 1 18");
        due(x, "end 1", 0);
        does(x, "put 0 1 16");
        due(x, "end 1", 1);
        x = made(SIX);
        for (int p = 0; p < 6; p++) {
            does(x, "put " + p + " 1 " + (p + 1));
            due("end 1 of an empty hat", call(x, "end 1"), p);
        }

        of(16, "who is most LOUD then (2),");
        x = made("person 0 99, person 50 0, person 39 99", hat(0, 0, 0, 0, 0, 1));
        // 32; 16; 3 * (1 + 9)
        does(x, hat(1, 0, 0, 0, 1, 1));
        due(x, "end 2", 0);
        does(x, "fill 0 0 2");
        due(x, "end 2", 2);
        does(x, "fill 5 0 34");
        due(x, "end 2", 0);
        does(x, "fill 4 0 33, fill 5 0 32");
        due(x, "end 2", 0);
        does(x, "hand 1");
        due(x, "end 2", 1);

        of(16, "of like ones the first (-1: there is nobody).");
        for (int people = 0; people <= 6; people++) {
            x = pew(people);
            dues(x, people == 0 ? -1 : 0, "end 1, end 2");
            does(x, "fill 3 1 " + people);
            dues(x, people == 0 ? -1 : 0, "end 1, end 2");
        }
        does(x, "put 3 1 5, put 5 1 5");
        due(x, "end 1", 3);
        x = made("person 0 0, person 50 0, person 50 0", hat(1, 0, 0, 0, 0, 2));
        due("1 and 2 are as loud", call(x, "end 2"), 1);
        due("1 and 2 have as much", call(x, "end 1"), 1);
        dues(made("fill 0 1 3"), -1, "end 1, end 2");
    }

    // ---- what is best

    private static void firstAndVicar() {
        of(17, "Who, having the hat now, would make one have most in the PURSE when it is empty,");
        HatGoesRound x = smallPew();
        // 0 first: 8 + 8 + 1 and 32 + 1 + 1; 1 first: 8 + 1 + 1 and 32 + 8 + 1
        due(x, "first 0 0", 0);
        due(x, "first 1 0", 1);
        does(x, "hand 1");
        due(x, "first 0 0", 0);
        due(x, "first 1 0", 1);
        due(x, "count 6", 1);
        due(x, "count 1", 6);
        x = made("person 50 0, person 50 0, person 50 0, person 50 0, person 50 0, person 50 0", hat(1, 1, 1, 1, 1, 1));
        for (int p = 0; p < 6; p++) {
            due(x, "first " + p + " 0", p);
        }
        x = made("person 0 0, person 0 0", hat(1, 0, 0, 0, 0, 1));
        due("the second one takes 32", call(x, "first 0 0"), 1);
        due("the second one takes 32", call(x, "first 1 0"), 0);

        of(17, "of like ones the first (what 0),");
        x = made("person 0 0, person 50 0, person 50 0", hat(2, 0, 0, 0, 0, 1));
        // 0 takes 1, 1 takes 32, or 0 takes 1 behind them
        due(x, "first 0 0", 0);
        due(x, "first 1 0", 0);
        due(x, "first 2 0", 2);
        x = made(SIX);
        dues(x, 0, "first 0 0, first 3 0, first 5 0");
        does(x, FULL_HAT, "put 4 1 9999");
        due("9999 at most", call(x, "first 4 0"), 0);

        of(17, "how much (1).");
        x = smallPew();
        due(x, "first 0 1", 17);
        due(x, "first 1 1", 41);
        does(x, "put 0 1 100, put 1 1 9958");
        due(x, "first 0 1", 117);
        due(x, "first 1 1", 9999);
        does(x, "put 1 1 9959");
        due(x, "first 1 1", 9999);
        due(x, "told 1 1", 9959);
        x = made(SIX);
        dues(x, 0, "first 0 1, first 5 1");
        x = made("person 0 0", FULL_HAT, worths(1, 1, 1, 1, 1, 1));
        due("of 120 coins", call(x, "first 0 1"), 120);

        of(18, "The first SORT (of which fewer than 20 are IN THE HAT)");
        for (int w = 0; w < 6; w++) {
            x = made("person 0 0", FULL_HAT);
            due(x, "vicar 0 0", -1);
            does(x, "fill " + w + " 1 19");
            due(x, "vicar 0 0", w);
            does(x, "fill 5 1 0");
            due(x, "vicar 0 0", w);
        }
        x = made("person 0 0");
        due(x, "vicar 0 0", 0);
        does(x, "fill 0 1 19");
        due(x, "vicar 0 0", 0);
        does(x, "fill 0 1 20");
        due(x, "vicar 0 0", 1);

        of(18, "such that, were 1 more of it, one would take the last coin (what 0; -1: none),");
        for (int people = 1; people <= 6; people++) {
            x = pew(people);
            for (int coins = 0; coins < 8; coins++) {
                does(x, "fill 2 1 " + coins);
                for (int p = 0; p < people; p++) {
                    due("vicar " + p + " 0, of " + people + ", " + coins + " coins", call(x, "vicar " + p + " 0"), coins % people == p ? 0 : -1);
                }
            }
            due(x, "count 1", 7);
        }
        for (int people = 1; people <= 6; people++) {
            x = pew(people);
            does(x, FULL_HAT, "fill 4 1 19");
            for (int p = 0; p < people; p++) {
                due("of 120 coins", call(x, "vicar " + p + " 0"), 119 % people == p ? 4 : -1);
            }
        }
        x = pew(4);
        does(x, "hand 3", "fill 2 1 6");
        due("from who has the hat on", call(x, "vicar 1 0"), 0);
        due("from who has the hat on", call(x, "vicar 2 0"), -1);

        of(18, "who would have the hat then (1; -1).");
        for (int people = 1; people <= 6; people++) {
            x = pew(people);
            for (int coins = 0; coins < 8; coins++) {
                does(x, "fill 2 1 " + coins);
                for (int p = 0; p < people; p++) {
                    int due = coins % people == p ? (p + 1) % people : -1;
                    due("vicar " + p + " 1, of " + people + ", " + coins + " coins", call(x, "vicar " + p + " 1"), due);
                }
            }
            due(x, "count 6", 0);
        }
        x = made("person 0 0", FULL_HAT);
        due(x, "vicar 0 1", -1);
    }

    private static void seating() {
        of(19, "Of all orders of all PEOPLE such that, went the hat round by it, again and again, from its first one on, till it is empty,");
        seatingOfFour();
        HatGoesRound x = smallPew();
        does(x, "hand 1");
        // 12: 17 and 34; 21: 10 and 41
        due("the TURN does not matter", call(x, "seating 0"), 12);
        due("the TURN stays", call(x, "count 6"), 1);
        x = made("person 35 80, person 0 99, put 0 1 80", worths(5, 20, 99, 0, 0, 0), hat(1, 1, 1, 0, 0, 0));
        // 12: TURNS are 0 and 2, she takes 5 and 20; 21: TURNS are 1, she takes 20
        due("TURNS go on by it", call(x, "seating 0"), 21);
        due("TURNS go on by it", call(x, "seating 1"), 4);

        of(19, "the most and the least that anybody has in the PURSE then would differ least,");
        x = smallPew();
        due(x, "seating 0", 12);
        due(x, "seating 1", 17);
        does(x, "put 0 1 20");
        due(x, "seating 0", 12);
        due(x, "seating 1", 3);
        does(x, "put 0 1 31");
        due(x, "seating 0", 21);
        due(x, "seating 1", 0);
        x = made("person 50 0, person 50 0, person 50 0, fill 0 1 2, put 0 1 1");
        due("all reach 1, if 0 is last", call(x, "seating 0"), 231);
        due("all reach 1, if 0 is last", call(x, "seating 1"), 0);
        does(x, "put 1 1 4, put 2 1 7");
        due("the middle one does not matter", call(x, "seating 1"), 5);

        of(19, "the first by who is first, then next, ..");
        x = pew(6);
        due(x, "seating 0", 123456);
        does(x, FULL_HAT, worths(3, 3, 3, 3, 3, 3));
        due(x, "seating 0", 123456);
        due(x, "seating 1", 0);
        does(x, "put 0 1 3", hat(5, 0, 0, 0, 0, 0));
        due("0 is last", call(x, "seating 0"), 234561);
        does(x, "put 0 1 0, put 3 1 3");
        due("3 is last", call(x, "seating 0"), 123564);
        does(x, "put 2 1 3, fill 0 1 4");
        due("2 and 3 are last", call(x, "seating 0"), 125634);

        of(19, "(what 0; digits, 1 more than each, the first the highest; nobody: 0),");
        due(nothing(), "seating 0", 0);
        due(made(FULL_HAT), "seating 0", 0);
        int[] digits = {1, 12, 123, 1234, 12345, 123456};
        int[] backwards = {1, 21, 321, 4321, 54321, 654321};
        for (int people = 1; people <= 6; people++) {
            x = pew(people);
            due(x, "seating 0", digits[people - 1]);
            for (int p = 0; p < people; p++) {
                does(x, "fill " + p + " 0 " + (p + 1), "fill " + p + " 1 1", "put " + p + " 1 " + (people - p));
            }
            // WORTH people, .., 1 are taken in turn and make all alike
            due("of " + people, call(x, "seating 0"), backwards[people - 1]);
            due("of " + people, call(x, "seating 1"), 0);
        }

        of(19, "by how much (1; nobody: 0).");
        due(nothing(), "seating 1", 0);
        due(made(FULL_HAT), "seating 1", 0);
        x = made("person 0 0");
        due(x, "seating 1", 0);
        does(x, FULL_HAT, "put 0 1 77");
        due(x, "seating 1", 0);
        x = made("person 0 0, person 0 0, put 0 1 9999");
        due(x, "seating 1", 9999);
        due(x, "seating 0", 12);
        does(x, "fill 0 1 2");
        due("9999 at most", call(x, "seating 1"), 9998);
        does(x, "put 1 1 9999");
        due(x, "seating 1", 0);
        does(x, "put 1 1 9998, fill 0 1 1");
        due("1 by the first order, 0 by the other", call(x, "seating 1"), 0);
        due("1 by the first order, 0 by the other", call(x, "seating 0"), 21);
    }

    /** Each order of four CHILDREN made the only one by which all have the same, of coins of WORTH 6, 5, .. 1. */
    private static void seatingOfFour() {
        for (int all = 0; all < 256; all++) {
            int[] order = {all / 64, all / 16 % 4, all / 4 % 4, all % 4};
            boolean each = (1 << order[0] | 1 << order[1] | 1 << order[2] | 1 << order[3]) == 15;
            if (each) {
                HatGoesRound x = made("person 50 0, person 50 0, person 50 0, person 50 0", worths(1, 2, 3, 4, 5, 6), hat(1, 1, 1, 1, 1, 1));
                // by that order they take 6 and 2, 5 and 1, 4, 3
                does(x, "put " + order[0] + " 1 15", "put " + order[1] + " 1 17", "put " + order[2] + " 1 19", "put " + order[3] + " 1 20");
                int digits = (order[0] + 1) * 1000 + (order[1] + 1) * 100 + (order[2] + 1) * 10 + order[3] + 1;
                due("seating 0 of " + digits, call(x, "seating 0"), digits);
                due("seating 1 of " + digits, call(x, "seating 1"), 0);
                does(x, "put " + order[3] + " 1 21");
                due("by how much", call(x, "seating 1"), 1);
            }
        }
    }

    private static void waysAndShare() {
        of(20, "In how many ways coins that are IN THE HAT");
        HatGoesRound x = nothing();
        due(x, "ways 0", 1);
        due(x, "ways 1", 0);
        does(x, hat(1, 1, 1, 1, 1, 1));
        for (int sum = 0; sum <= 64; sum++) {
            due(x, "ways " + sum, sum <= 63 ? 1 : 0);
        }
        does(x, "fill 3 1 0");
        for (int sum = 0; sum <= 64; sum++) {
            due(x, "ways " + sum, sum <= 63 && sum / 8 % 2 == 0 ? 1 : 0);
        }
        due("none goes out", call(x, "count 1"), 5);

        of(20, "(those of a SORT are alike) make, together,");
        x = made("fill 0 1 20");
        for (int sum = 0; sum <= 21; sum++) {
            due(x, "ways " + sum, sum <= 20 ? 1 : 0);
        }
        does(x, "fill 1 0 1, fill 1 1 20");
        for (int sum = 0; sum <= 41; sum++) {
            due("two SORTS of WORTH 1: ways " + sum, call(x, "ways " + sum), sum <= 20 ? sum + 1 : 41 - sum);
        }
        x = made("fill 2 0 0, fill 2 1 20, fill 3 1 2");
        due("WORTH 0: none, 1, .. 20 of them", call(x, "ways 0"), 21);
        due("WORTH 0", call(x, "ways 16"), 21);
        due("WORTH 0", call(x, "ways 15"), 0);
        x = made(FULL_HAT, worths(0, 0, 0, 0, 0, 0));
        due("six SORTS of WORTH 0", call(x, "ways 0"), 85766121);
        due("six SORTS of WORTH 0", call(x, "ways 1"), 0);
        x = made(hat(4, 2, 1, 0, 0, 0));
        // 1 + 1 + 2, 2 + 2, 4, 1 + 1 + 1 + 1
        due(x, "ways 4", 4);
        due(x, "ways 12", 1);
        due(x, "ways 13", 0);

        share();
    }

    private static void share() {
        of(21, "PURSE of one, of that of all and WORTH of all IN THE HAT, together:");
        HatGoesRound x = made(SIX, hat(1, 0, 0, 0, 0, 2));
        for (int p = 0; p < 6; p++) {
            does(x, "put " + p + " 1 " + (p < 5 ? 97 + p : 540));
        }
        // 97, 98, 99, 100, 101, 540 of 1035 and 65: 1100
        int[][] shares = {{97, 1100}, {49, 550}, {9, 100}, {1, 11}, {101, 1100}, {27, 55}};
        for (int p = 0; p < 6; p++) {
            due(x, "share " + p + " 0", shares[p][0]);
            due(x, "share " + p + " 1", shares[p][1]);
        }
        x = made(SIX, FULL_HAT, worths(99, 99, 99, 99, 99, 99));
        for (int p = 0; p < 6; p++) {
            does(x, "put " + p + " 1 9999");
        }
        // 9999 of 59994 and 11880: 99 * 101 of 99 * 726
        due("all there can be", call(x, "share 5 0"), 101);
        due("all there can be", call(x, "share 5 1"), 726);

        of(21, "part 0 above, 1 below the line, in lowest terms.");
        x = made("person 0 0, person 0 0");
        int[][] of = {{0, 1, 0, 1}, {1, 0, 1, 1}, {1, 1, 1, 2}, {6, 4, 3, 5}, {4, 6, 2, 5}, {9999, 9999, 1, 2}, {9999, 0, 1, 1}, {7, 9992, 7, 9999},
            {0, 9999, 0, 1}, {36, 48, 3, 7}, {48, 36, 4, 7}, {1, 9998, 1, 9999}, {9998, 2, 4999, 5000}};
        for (int[] purses : of) {
            does(x, "put 0 1 " + purses[0], "put 1 1 " + purses[1]);
            due("share 0 0 of " + purses[0] + ", " + purses[1], call(x, "share 0 0"), purses[2]);
            due("share 0 1 of " + purses[0] + ", " + purses[1], call(x, "share 0 1"), purses[3]);
        }
        x = made("person 0 0, fill 5 1 1");
        due(x, "share 0 0", 0);
        due(x, "share 0 1", 1);
    }

    // ---- told rounds

    private static void judge() {
        of(22, "A SHEET tells which SORT is taken in the 1st, 2nd, .. TURN from now");
        HatGoesRound x = smallPew();
        tells(x, 4, 6, 4, 1, 1, 1);
        row(x, 1, 0, 6, 4, 1, 1, 1);
        due(x, "judge 0", -1);
        due(x, "judge 1", 0);
        due("in thought", call(x, "count 1"), 6);
        due("in thought", call(x, "told 0 1"), 0);
        does(x, "pass");
        due(x, "judge 0", 0);
        due(x, "judge 1", -1);
        does(x, "hand 0");
        due("0 takes 8", call(x, "judge 1"), 0);

        of(22, "(30 at most; 1 more than the SORT; 0: none):");
        x = made("person 50 0", FULL_HAT);
        tells(x, times(20, 6, 5, 5, 5, 5, 5, 5, 5, 5, 5, 5));
        due("30", call(x, "judge 0"), -1);
        tells(x, times(20, 6, 5, 5, 5, 5, 5, 5, 5, 5, 5, 5, 5));
        due("31", call(x, "judge 0"), -2);
        tells(x, times(20, 6, 5, 5, 5, 5, 5, 5, 5, 5, 5));
        due("29", call(x, "judge 0"), -1);
        tells(x, times(40, 6));
        due("40", call(x, "judge 0"), -2);
        tells(x);
        due("nothing", call(x, "judge 0"), -1);
        for (int w = 0; w < 6; w++) {
            x = made("person 50 0, fill " + w + " 1 1");
            for (int number = 0; number <= 7; number++) {
                tells(x, number, 0);
                due(number + " for SORT " + w, call(x, "judge 0"), number == w + 1 ? -1 : 0);
            }
        }
        tells(x, 6, 0, 0, 0);
        due("none behind the last", call(x, "judge 0"), -1);
        tells(x, 6, 0, 1, 0);
        due("none behind the last", call(x, "judge 0"), 2);
        x = made("fill 0 1 3");
        tells(x, 0, 0);
        due("of nobody none is taken", call(x, "judge 0"), -1);
        tells(x, 0, 1);
        due("of nobody none is taken", call(x, "judge 0"), 1);

        of(22, "the first number (from 0) that is otherwise; -1: none.");
        x = made("person 50 0", FULL_HAT);
        tells(x, times(20, 6, 5, 5, 5, 5, 5, 5, 5, 5, 5, 5));
        for (int i = 29; i >= 0; i--) {
            does(x, "cell 0 " + i + " 4");
            due("of some the first", call(x, "judge 0"), i);
        }
        for (int i = 0; i < 30; i++) {
            does(x, "cell 0 " + i + " " + (i < 20 ? 6 : 5));
            due("of some the first", call(x, "judge 0"), i < 29 ? i + 1 : -1);
        }
        for (int sort = 0; sort <= 2; sort++) {
            int[] others = {-1, 7, 6 + 256, 6 + 65536, Integer.MIN_VALUE + 6, Integer.MAX_VALUE};
            for (int number : others) {
                row(x, 1, sort, number);
                long as = sort == 0 ? (byte) number : sort == 1 ? (short) number : number;
                due(number + " of sort " + sort, call(x, "judge 1"), as == 6 ? -1 : 0);
            }
        }
    }

    private static void kindsAndPrides() {
        of(23, "KINDS (sort 0; bits 0 .. 5),");
        // a PERSON takes 10, a RICH 2, a POOR and a WIDOW 55, a STIRRING 9, a CHILD 99; then a POOR 53, a WIDOW 62
        HatGoesRound x = made("person 9 10", worths(10, 2, 50, 99, 9, 60), hat(1, 1, 1, 1, 1, 1));
        int[][] rounds = {{1}, {2}, {3, 1}, {5}, {3, 6}, {4}};
        for (int kind = 0; kind < 6; kind++) {
            tells(x, rounds[kind]);
            due("only KIND " + kind, call(x, "kinds 0 0 0"), 1 << kind);
        }
        tells(x, 3);
        due("POOR and WIDOW", call(x, "kinds 0 0 0"), 0b010100);
        tells(x, 7);
        due("none", call(x, "kinds 0 0 0"), 0);
        tells(x);
        due("all", call(x, "kinds 0 0 0"), 0b111111);
        due("the KIND stays", call(x, "told 0 3"), 0);
        x = made("person 9 10, person 9 10", worths(10, 2, 50, 99, 9, 60), hat(1, 1, 1, 1, 1, 1));
        tells(x, 1, 4);
        due("only that one's", call(x, "kinds 0 1 0"), 0b100000);
        due("only that one's", call(x, "kinds 0 0 0"), 0);

        of(23, "MORE (1; bits 0 .. 9) of one by which, were they one's, that would be -1.");
        x = law(made("person 25 0", worths(5, 3, 1, 0, 0, 45), hat(1, 1, 0, 0, 0, 1)), "0", "0", "0");
        tells(x, 2);
        due("MORE 0", call(x, "kinds 0 0 1"), 0b0000000001);
        tells(x, 1);
        due("MORE 1 .. 8", call(x, "kinds 0 0 1"), 0b0111111110);
        tells(x, 6);
        due("MORE 9", call(x, "kinds 0 0 1"), 0b1000000000);
        tells(x, 3);
        due("none", call(x, "kinds 0 0 1"), 0);
        tells(x);
        due("all", call(x, "kinds 0 0 1"), 0b1111111111);
        due("MORE stays", call(x, "told 0 4"), 5);
        for (int more = 0; more <= 9; more++) {
            does(x, "fill 0 0 " + 5 * more, "fill 1 0 " + (5 * more + 1), "fill 5 0 " + Math.max(0, 5 * more - 1));
            tells(x, 1);
            due("only MORE " + more, call(x, "kinds 0 0 1"), 1 << more);
        }
        x = law(made("person 0 0, person 25 0, person 25 0", worths(5, 3, 1, 0, 0, 45), hat(1, 2, 0, 0, 0, 1)), "0", "0", "0");
        tells(x, 2, 6);
        due("only that one's", call(x, "kinds 0 1 1"), 0b1000000000);
        due("only that one's", call(x, "kinds 0 2 1"), 0);

        of(24, "PRIDE (0 .. 99) of one by which, were it so now, that would be -1:");
        x = made("person 0 50", worths(0, 1, 99, 4, 5, 6), hat(1, 1, 1, 0, 0, 0));
        tells(x, 1);
        due("0", call(x, "prides 0 0 0"), 1);
        tells(x, 3);
        due("99", call(x, "prides 0 0 0"), 1);
        due("PRIDE stays", call(x, "told 0 0"), 50);
        x = made("person 0 50, person 0 50", worths(0, 1, 99, 4, 5, 6), hat(1, 1, 1, 0, 0, 0));
        tells(x, 2, 3);
        due("only that one's", call(x, "prides 0 1 0"), 1);
        due("only that one's", call(x, "prides 0 1 1"), 99);
        due("only that one's", call(x, "prides 0 0 0"), 0);

        of(24, "how many (what 0), the least (1; -1: none).");
        x = made("person 0 50", worths(0, 1, 99, 4, 5, 6), hat(1, 1, 1, 0, 0, 0));
        int[][] told = {{1, 1, 0}, {2, 98, 1}, {3, 1, 99}, {4, 0, -1}};
        for (int[] of : told) {
            tells(x, of[0]);
            due("how many tell " + of[0], call(x, "prides 0 0 0"), of[1]);
            due("the least tells " + of[0], call(x, "prides 0 0 1"), of[2]);
        }
        tells(x);
        due("all", call(x, "prides 0 0 0"), 100);
        due("all", call(x, "prides 0 0 1"), 0);
    }

    private static void hatsStartsLaws() {
        of(25, "How many (0 .. 20) of a SORT would have to be IN THE HAT now for that to be -1:");
        HatGoesRound x = made("person 50 0", hat(2, 0, 0, 0, 0, 7));
        tells(x, 1);
        due("0", call(x, "hats 0 5 1"), 0);
        tells(x, times(20, 6, 1));
        due("20", call(x, "hats 0 5 1"), 20);
        tells(x, times(19, 6, 1));
        due("19", call(x, "hats 0 5 1"), 19);
        tells(x, times(21, 6));
        due("21 can't be", call(x, "hats 0 5 1"), -1);
        due("as many stay", call(x, "hat 5 1"), 7);
        due("as many stay", call(x, "count 1"), 9);
        for (int w = 0; w < 6; w++) {
            tells(x, times(7, 6, w == 0 ? 1 : w == 5 ? 6 : w + 1));
            due("SORT " + w, call(x, "hats 0 " + w + " 1"), w == 5 ? 8 : 1);
        }

        x = law(made("person 0 0", hat(1, 1, 1, 1, 0, 0)), "coins", "0", "0");
        tells(x, 4);
        due("coins are more by them: TAKES 8 of 3 and 5", call(x, "hats 0 0 1"), 5);
        due("coins are more by them: TAKES 8 .. 23", call(x, "hats 0 0 0"), 16);

        of(25, "how many such (what 0), the least (1; -1: none).");
        x = made("person 50 0", hat(2, 0, 0, 0, 0, 7));
        int[][] rounds = {{}, {1}, {6}, {6, 6, 6}, {2}, times(20, 6), times(20, 6, 1), times(20, 6, 6)};
        int[] many = {21, 1, 20, 18, 0, 1, 1, 0};
        int[] least = {0, 0, 1, 3, -1, 20, 20, -1};
        for (int i = 0; i < rounds.length; i++) {
            tells(x, rounds[i]);
            due("how many, round " + i, call(x, "hats 0 5 0"), many[i]);
            due("the least, round " + i, call(x, "hats 0 5 1"), least[i]);
        }

        of(26, "PEOPLE (bits) by whom, had they the hat now, that would be -1.");
        x = made("person 0 1, person 0 2, person 0 4, person 0 8, person 0 16, person 0 32, hand 2", hat(1, 1, 1, 1, 1, 1));
        for (int p = 0; p < 6; p++) {
            tells(x, p + 1);
            due("only " + p, call(x, "starts 0"), 1 << p);
        }
        tells(x, 7);
        due("nobody", call(x, "starts 0"), 0);
        tells(x);
        due("all", call(x, "starts 0"), 0b111111);
        due("TURN stays", call(x, "count 6"), 2);
        x = made("fill 0 1 1");
        tells(x);
        due("there is nobody", call(x, "starts 0"), 0);
        does(x, "person 0 1");
        due("one", call(x, "starts 0"), 1);
        does(x, "person 0 1");
        due("two", call(x, "starts 0"), 3);

        of(27, "TEXTS (bits), were they THE LAW, by which that would be -1.");
        x = made("person 0 1", hat(1, 1, 1, 1, 1, 1));
        tells(x);
        due("TEXT 0 alone", call(x, "laws 0"), 1);
        for (int t = 1; t <= 5; t++) {
            text(x, "takes " + (1 << t) + ";sounds 1;costs 1;");
            due("all", call(x, "laws 0"), (2 << t) - 1);
        }
        for (int t = 0; t <= 5; t++) {
            tells(x, t + 1);
            due("only TEXT " + t, call(x, "laws 0"), 1 << t);
        }
        tells(x, 7);
        due("none", call(x, "laws 0"), 0);
        due("THE LAW stays", call(x, "count 4"), 0);
        does(x, "force 3");
        tells(x, 1);
        due("whatever THE LAW is", call(x, "laws 0"), 1);
    }

    private static void film() {
        of(28, "A SHEET truly becomes which SORT is taken in the 1st, .., nth TURN");
        HatGoesRound x = smallPew();
        int[] due = {4, 6, 4, 1, 1, 1, 0, 0};
        for (int n = 0; n <= due.length; n++) {
            due(x, "film 3 " + n, n);
            tells(x, due);
            due("as it tells", call(x, "judge 3"), -1);
            due("n of them", call(x, "cell 3 " + n + " 0"), -12);
            if (n > 0) {
                due("n of them", call(x, "cell 3 " + (n - 1) + " " + due[n - 1]), 1);
                due("no other", call(x, "copy 3 0 0 0 " + n), n);
                due("no other", call(x, "judge 0"), -1);
            }
        }
        due("in thought", call(x, "count 1"), 6);
        due("in thought", call(x, "count 2"), 0);
        due("in thought", call(x, "told 1 1"), 0);
        for (int s = 0; s < 4; s++) {
            due(x, "film " + s + " 6", 6);
            due(x, "judge " + s, -1);
        }
        does(x, "pass");
        due("as it was", call(x, "judge 3"), 0);
        due(x, "film 3 5", 5);
        due(x, "judge 3", -1);

        of(28, "(0 .. 30; bytes; 1 more than each; 0: none): n.");
        x = made("person 50 0", FULL_HAT);
        row(x, 1, 2, times(40, 9));
        due(x, "film 1 30", 30);
        due(x, "judge 1", -1);
        due("bytes", call(x, "pewBy 1 0 0 0"), 0);
        due("30", call(x, "cell 1 29 5"), 1);
        due("30", call(x, "cell 1 30 5"), -12);
        due(x, "film 1 31", -7);
        due("30 as they were", call(x, "judge 1"), -1);
        due(x, "film 1 -1", -7);
        due(x, "film 1 0", 0);
        due("nothing", call(x, "cell 1 0 0"), -12);
        due("nothing", call(x, "judge 1"), -1);
        tells(x, times(20, 6, 5, 5, 5, 5, 5, 5, 5, 5, 5, 5));
        due("1 more than each", call(x, "judge 0"), -1);
        does(x, hat(0, 0, 0, 0, 0, 0));
        due("an empty hat", call(x, "film 2 3"), 3);
        tells(x, 0, 0, 0);
        does(x, "fill 0 1 1");
        due("none", call(x, "judge 2"), 0);
        does(x, "fill 0 1 0");
        due("none", call(x, "judge 2"), -1);
        x = made("fill 0 1 3");
        due("nobody", call(x, "film 2 3"), 3);
        due("none", call(x, "judge 2"), -1);
        does(x, "person 0 1");
        due("none", call(x, "judge 2"), 0);
    }

    // ---- hats by lots

    /** The first ten LOTS of a SEED, of SORTS. */
    private static int[] sorts(int seed) {
        int[] sorts = new int[10];
        long lot = seed + 1L;
        for (int i = 0; i < 10; i++) {
            lot = lot * 48271 % 2147483647L;
            sorts[i] = (int) (lot % 6);
        }
        return sorts;
    }

    private static void lots() {
        of(29, "HATS by a SEED of n coins (0 .. 30):");
        HatGoesRound x = made("person 0 99");
        due(x, "drawn 0 0 0", 0);
        due(x, "drawn 0 1 0", 2);
        // of 30 by SEED 0 there are as many of each SORT as these
        long lot = 1;
        int sum = 0;
        for (int i = 0; i < 30; i++) {
            lot = lot * 48271 % 2147483647L;
            sum += 1 << lot % 6;
        }
        due(x, "drawn 0 30 0", sum);
        dues(x, -2, "drawn 0 -1 0, drawn 0 31 0, drawn 0 MIN 0, drawn 0 MAX 0");
        dues(x, 0, "count 1, count 2, told 0 1, told 0 2");

        of(29, "the most that anybody has in the PURSE then (what 0; nobody: 0),");
        due(nothing(), "drawn 0 30 0", 0);
        due(made(FULL_HAT), "drawn 0 30 0", 0);
        x = made("person 0 99, person 0 99, person 0 99");
        // SORTS 1, 0, 0, 1, 1, 5: they take 32, 2, 2, 2, 1, 1
        due(x, "drawn 0 6 0", 34);
        does(x, "put 2 1 40");
        due(x, "drawn 0 6 0", 43);
        does(x, "put 0 1 9990");
        due(x, "drawn 0 6 0", 9999);
        due(x, "drawn 0 0 0", 9990);

        of(29, "who took the last coin (1; -1: none was taken).");
        for (int people = 1; people <= 6; people++) {
            x = pew(people);
            for (int n = 0; n <= 30; n++) {
                due(x, "drawn 7 " + n + " 1", n == 0 ? -1 : (n - 1) % people);
            }
            does(x, "hand " + (people - 1));
            due(x, "drawn 7 1 1", people - 1);
            does(x, "fill 0 1 2");
            due("two that are in the hat", call(x, "drawn 7 0 1"), 0);
            does(x, FULL_HAT, "hand 0");
            due("of 120 coins", call(x, "drawn 7 30 1"), 119 % people);
        }
        x = made("person 0 0", FULL_HAT, worths(1, 1, 1, 1, 1, 1));
        due("of 120 coins", call(x, "drawn 7 30 0"), 120);
        due(made("fill 0 1 4"), "drawn 7 5 1", -1);

        odds();
    }

    private static int common(int a, int b) {
        return b == 0 ? a : common(b, a % b);
    }

    /** How many of so many seeds leave an odd number of coins, where 20 of SORT 0 were IN THE HAT. */
    private static int oddHats(int seed, int seeds) {
        int odd = 0;
        for (int i = 0; i < seeds; i++) {
            int others = 0;
            for (int sort : sorts(seed + i)) {
                others += sort == 0 ? 0 : 1;
            }
            odd += others % 2;
        }
        return odd;
    }

    private static void odds() {
        of(30, "By how many of so many (1 .. 40) seeds,");
        HatGoesRound x = made("person 0 99, person 0 99, fill 0 1 20");
        for (int seeds = 1; seeds <= 40; seeds++) {
            int odd = oddHats(0, seeds);
            int common = common(seeds, odd);
            due(x, "odds 0 " + seeds + " 0 0", odd / common);
            due(x, "odds 0 " + seeds + " 0 1", seeds / common);
        }
        dues(x, NO, "odds 0 0 0 0, odds 0 41 0 0, odds 0 -1 0 0, odds 0 MIN 0 0, odds 0 MAX 0 0");
        due("in thought", call(x, "count 1"), 20);
        due("in thought", call(x, "count 2"), 0);

        of(30, "SEED and each 1 more (they may pass 99999),");
        for (int seeds = 1; seeds <= 40; seeds++) {
            int odd = oddHats(99999, seeds);
            int common = common(seeds, odd);
            due(x, "odds 99999 " + seeds + " 0 0", odd / common);
            due(x, "odds 99999 " + seeds + " 0 1", seeds / common);
        }
        for (int seed = 0; seed < 40; seed++) {
            due(x, "odds " + seed + " 1 0 0", oddHats(seed, 1));
            due(x, "odds " + seed + " 1 1 0", 1 - oddHats(seed, 1));
        }
        due(x, "odds 99960 40 0 1", 40 / common(40, oddHats(99960, 40)));

        of(30, "of 10 coins, one takes the last coin:");
        for (int people = 1; people <= 6; people++) {
            x = pew(people);
            for (int p = 0; p < people; p++) {
                due("one of " + people, call(x, "odds 5 20 " + p + " 0"), p == 9 % people ? 1 : 0);
            }
            does(x, "hand " + (people - 1));
            for (int p = 0; p < people; p++) {
                due("one of " + people, call(x, "odds 5 20 " + p + " 0"), p == (people - 1 + 9) % people ? 1 : 0);
            }
            does(x, FULL_HAT, "hand 0");
            for (int p = 0; p < people; p++) {
                due("one of " + people + ", of 120 coins", call(x, "odds 5 2 " + p + " 0"), p == 119 % people ? 1 : 0);
            }
        }

        of(30, "part 0 above, 1 below the line, in lowest terms.");
        x = made("person 0 99, person 0 99, fill 0 1 20");
        for (int seed = 100; seed < 400; seed += 7) {
            int odd = oddHats(seed, 12);
            int common = common(12, odd);
            due(x, "odds " + seed + " 12 0 0", odd / common);
            due(x, "odds " + seed + " 12 0 1", 12 / common);
            due(x, "odds " + seed + " 12 1 0", (12 - odd) / common);
        }
        x = pew(2);
        due("0 of 40", call(x, "odds 5 40 0 0"), 0);
        due("0 of 40", call(x, "odds 5 40 0 1"), 1);
        due("40 of 40", call(x, "odds 5 40 1 0"), 1);
        due("40 of 40", call(x, "odds 5 40 1 1"), 1);
    }

    private static void imageAndBack() {
        of(31, "AN IMAGE is kept: how many of PEOPLE.");
        HatGoesRound x = nothing();
        for (int p = 0; p <= 6; p++) {
            due(x, "image", p);
            call(x, "person 0 0");
            due("the last one is kept", call(x, "back"), p);
            due(x, "count 0", p);
            call(x, "person 0 0");
        }

        of(32, "All that it keeps is as in THE IMAGE,");
        x = made("person 0 8, fill 0 1 3, image, put 0 1 5, pass, back");
        dues(x, 0, "told 0 1, told 0 2, count 2");
        due(x, "told 0 0", 8);
        due(x, "hat 0 1", 3);
        does(x, "pass, pass");
        due("again", call(x, "back"), 1);
        due(x, "hat 0 1", 3);
        due(x, "count 2", 0);
        does(x, "fill 0 0 50, fill 1 1 1, pass");
        due("again", call(x, "back"), 1);
        due(x, "hat 0 0", 1);
        due(x, "count 1", 3);
        does(x, "pass, image, pass, back");
        due("another image", call(x, "count 2"), 1);
        text(x, "takes 5;sounds 5;costs 5;");
        does(x, "force 1");
        tells(x, 1);
        feed(x, "ab");
        does(x, "back");
        due("THE LAW", call(x, "count 4"), 0);
        due("TEXTS are not kept", call(x, "count 3"), 2);
        due("THE TAPE is not kept", call(x, "count 5"), 2);
        due("SHEETS are not kept", call(x, "judge 0"), -1);

        of(32, "PEOPLE that came since are none:");
        x = made("person 11 1, image, person 25 30, put 1 1 77, person 0 0, hand 2");
        due(x, "back", 1);
        due(x, "count 0", 1);
        dues(x, -5, "told 1 0, told 2 0, hand 1, put 1 1 5, coin 1 0 0, first 1 0");
        due(x, "taken 1 0", -11);
        due(x, "share 1 0", NO);
        due(x, "person 33 44", 1);
        int[] told = {44, 0, 0, 3, 3};
        for (int what = 0; what < 5; what++) {
            due(x, "told 1 " + what, told[what]);
        }

        of(32, "how many there are.");
        x = made("image");
        due(x, "back", 0);
        does(x, "person 0 0");
        due(x, "back", 0);
        does(x, SIX, "image");
        due(x, "back", 6);
    }

    // ---- the host

    /** The numbers (each 0 .. 59) of a SHEET of a sort, in a pew of nobody that is kept as an image. */
    private static void dueNumbers(HatGoesRound x, int s, int sort, int... numbers) {
        for (int i = 0; i < numbers.length; i++) {
            boolean last = i == numbers.length - 1;
            due("number " + i, call(x, "pewBy " + s + " " + sort + " " + (last ? i - 1 : i) + " 1"), 1);
            due("number " + i, last ? call(x, "told 0 0") : 10 * call(x, "told 0 3") + call(x, "told 0 4"), numbers[i]);
            does(x, "back");
        }
        due("no more numbers", call(x, "pewBy " + s + " " + sort + " " + (numbers.length - 1) + " 1"), -12);
    }

    private static void sheetAndCell() {
        of(33, "A SHEET becomes a row of n of a sort, all 0,");
        HatGoesRound x = nothing();
        for (int sort = 0; sort <= 2; sort++) {
            for (int n : new int[] {0, 1, 29, 30}) {
                due(x, "sheet 1 " + sort + " " + n, 1);
                due("n", call(x, "cell 1 " + n + " 1"), -12);
                // of nobody nothing is taken: each number is due to be 0
                due("all 0", call(x, "judge 1"), -1);
                if (n > 0) {
                    does(x, "cell 1 0 5, cell 1 " + (n - 1) + " 5");
                    due("not 0", call(x, "judge 1"), 0);
                    due("again", call(x, "sheet 1 " + sort + " " + n), 1);
                    due("all 0", call(x, "judge 1"), -1);
                    does(x, "cell 1 " + (n - 1) + " 5, sheet 1 " + sort + " 0, sheet 1 " + sort + " 30");
                    due("all 0", call(x, "judge 1"), -1);
                }
            }
            due(x, "sheet 1 " + sort + " 40", 1);
            due("n", call(x, "cell 1 39 5"), 1);
            due("n", call(x, "cell 1 40 5"), -12);
            due("of that sort", call(x, "pewBy 1 " + sort + " 0 0"), 0);
            dues(x, -13, "pewBy 1 " + (sort + 1) % 3 + " 0 0", "pewBy 1 " + (sort + 2) % 3 + " 0 0");
        }
        dues(x, -11, "judge 0, judge 2, judge 3");
        for (int sort = 0; sort <= 2; sort++) {
            x = made("sheet 1 " + sort + " 40");
            for (int i = 0; i < 40; i++) {
                does(x, "cell 1 " + i + " 7");
            }
            does(x, "sheet 1 " + sort + " 40, image");
            for (int i = 0; i < 40; i += 2) {
                due(x, "pewBy 1 " + sort + " " + i + " 1", 1);
                dues(x, 0, "told 0 0, told 0 4, back");
            }
        }

        of(33, "or missing (sort -1: n does not matter): 1.");
        for (String n : new String[] {"0", "-1", "40", "41", "MIN", "MAX"}) {
            due(x, "sheet 2 0 3", 1);
            due(x, "judge 2", -1);
            due(x, "sheet 2 -1 " + n, 1);
            dues(x, -11, "judge 2, cell 2 0 0");
            due("missing already", call(x, "sheet 2 -1 " + n), 1);
            due(x, "judge 2", -11);
        }

        of(34, "Number i of a SHEET becomes v");
        x = nothing();
        for (int sort = 0; sort <= 2; sort++) {
            does(x, "sheet 0 " + sort + " 30, sheet 1 " + sort + " 30");
            for (int i = 29; i >= 0; i--) {
                due(x, "cell 0 " + i + " 1", 1);
                due("number " + i, call(x, "judge 0"), i);
            }
            due("another SHEET", call(x, "judge 1"), -1);
            due(x, "cell 0 0 0", 1);
            due("number 0", call(x, "judge 0"), 1);
        }
        for (int sort = 0; sort <= 2; sort++) {
            does(x, "sheet 0 " + sort + " 2");
            does(x, "cell 0 0 59, cell 0 1 99");
            does(x, "image");
            due(x, "pewBy 0 " + sort + " 0 1", 1);
            due(x, "told 0 3", 5);
            due(x, "told 0 4", 9);
            due(x, "told 0 0", 99);
            does(x, "back");
        }

        of(34, "(of bytes, shorts its lowest 8, 16 bits): 1.");
        x = made("image");
        // as of bytes, of shorts, of ints: 0, or not
        Object[][] numbers = {{"255", 0, 0, 0}, {"256", -1, 0, 0}, {"257", 0, 0, 0}, {"-256", -1, 0, 0}, {"65535", 0, 0, 0}, {"65536", -1, -1, 0},
            {"-65536", -1, -1, 0}, {"32768", -1, 0, 0}, {"128", 0, 0, 0}, {"-128", 0, 0, 0}, {"MIN", -1, -1, 0}, {"MAX", 0, 0, 0}, {"16777216", -1, -1, 0}};
        for (Object[] number : numbers) {
            for (int sort = 0; sort <= 2; sort++) {
                does(x, "sheet 0 " + sort + " 1");
                due(x, "cell 0 0 " + number[0], 1);
                due(number[0] + " of sort " + sort, call(x, "judge 0"), (Integer) number[1 + sort]);
            }
        }
        int[] fits = {47, 47 + 256, 47 - 256, 47 + 65536, 47 - 65536, 47 + (1 << 31), 47 + (1 << 24), 47 + 128, 47 + 32768};
        for (int v : fits) {
            for (int sort = 0; sort <= 2; sort++) {
                row(x, 0, sort, v, v);
                int as = sort == 0 ? v << 24 >> 24 : sort == 1 ? v << 16 >> 16 : v;
                due(v + " of sort " + sort, call(x, "pewBy 0 " + sort + " 0 1"), as == 47 ? 1 : 0);
                due(v + " of sort " + sort, call(x, "told 0 0"), as == 47 ? 47 : -5);
                does(x, "back");
            }
        }
    }

    private static void copy() {
        of(35, "n numbers of a SHEET, from i on, come to another one's (or its own) place j");
        for (int sort = 0; sort <= 2; sort++) {
            HatGoesRound x = made("image");
            row(x, 0, sort, 10, 11, 12, 13, 14, 15, 16, 17);
            row(x, 3, sort, 20, 21, 22, 23, 24, 25);
            due(x, "copy 0 2 3 1 3", 3);
            dueNumbers(x, 3, sort, 20, 12, 13, 14, 24, 25);
            due(x, "copy 0 0 3 5 1", 1);
            dueNumbers(x, 3, sort, 20, 12, 13, 14, 24, 10);
            due(x, "copy 0 7 3 0 1", 1);
            dueNumbers(x, 3, sort, 17, 12, 13, 14, 24, 10);
            dueNumbers(x, 0, sort, 10, 11, 12, 13, 14, 15, 16, 17);
            due("all of it", call(x, "copy 3 0 0 2 6"), 6);
            dueNumbers(x, 0, sort, 10, 11, 17, 12, 13, 14, 24, 10);
            due("its own", call(x, "copy 0 2 0 0 1"), 1);
            dueNumbers(x, 0, sort, 17, 11, 17, 12, 13, 14, 24, 10);
        }
        HatGoesRound x = nothing();
        row(x, 0, 2, times(40, 5));
        does(x, "sheet 1 2 40");
        due("40", call(x, "copy 0 0 1 0 40"), 40);
        due("number 0", call(x, "pewBy 1 2 0 1"), 1);
        due("number 38, 39", call(x, "pewBy 1 2 38 1"), 1);
        due("number 39", call(x, "told 1 0"), 5);
        dues(x, 0, "copy 0 0 1 0 0, copy 0 40 1 40 0, copy 1 40 1 0 0, copy 1 0 1 40 0");
        does(x, "sheet 2 2 0, sheet 3 2 0");
        due("nothing of nothing", call(x, "copy 2 0 3 0 0"), 0);
        does(x, "sheet 3 2 2");
        due("none of one come", call(x, "copy 0 0 3 0 0"), 0);
        due("none of one come", call(x, "pewBy 3 2 0 1"), 1);
        due("none of one come", call(x, "told 2 0"), 0);

        of(35, "(as they were): n.");
        for (int sort = 0; sort <= 2; sort++) {
            x = made("image");
            row(x, 0, sort, 10, 11, 12, 13, 14, 15, 16, 17);
            due("behind", call(x, "copy 0 0 0 1 7"), 7);
            dueNumbers(x, 0, sort, 10, 10, 11, 12, 13, 14, 15, 16);
            row(x, 0, sort, 10, 11, 12, 13, 14, 15, 16, 17);
            due("to the front", call(x, "copy 0 1 0 0 7"), 7);
            dueNumbers(x, 0, sort, 11, 12, 13, 14, 15, 16, 17, 17);
            row(x, 0, sort, 10, 11, 12, 13, 14, 15, 16, 17);
            due("two further", call(x, "copy 0 1 0 3 5"), 5);
            dueNumbers(x, 0, sort, 10, 11, 12, 11, 12, 13, 14, 15);
            due("where they are", call(x, "copy 0 2 0 2 5"), 5);
            dueNumbers(x, 0, sort, 10, 11, 12, 11, 12, 13, 14, 15);
        }
    }

    private static void pewByAndTaken() {
        of(36, "PEOPLE by a SHEET of a sort:");
        for (int sort = 0; sort <= 2; sort++) {
            for (int s = 0; s < 4; s++) {
                HatGoesRound x = row(nothing(), s, sort, 59, 99, 0, 0);
                due(x, "pewBy " + s + " " + sort + " 0 2", 2);
                int[][] told = {{99, 0, 0, 5, 9}, {0, 0, 0, 0, 0}};
                for (int what = 0; what < 5; what++) {
                    due(x, "told 0 " + what, told[0][what]);
                    due(x, "told 1 " + what, told[1][what]);
                }
            }
        }

        of(36, "from a place on, two by two (as of person()),");
        HatGoesRound x = made("image");
        row(x, 0, 0, 11, 12, 13, 14, 15, 16, 17);
        for (int from = 0; from <= 5; from++) {
            due(x, "pewBy 0 0 " + from + " 1", 1);
            due(x, "told 0 4", 1 + from);
            due(x, "told 0 0", 12 + from);
            does(x, "back");
        }
        due(x, "pewBy 0 0 0 3", 3);
        due(x, "told 1 4", 3);
        due(x, "told 1 0", 14);
        due(x, "told 2 4", 5);
        due(x, "told 2 0", 16);
        does(x, "back");
        due(x, "pewBy 0 0 1 3", 3);
        due(x, "told 2 4", 6);
        due(x, "told 2 0", 17);

        of(36, "n of them (0 .. 6):");
        for (int n = 0; n <= 6; n++) {
            x = nothing();
            does(x, "sheet 0 1 40");
            due(x, "pewBy 0 1 0 " + n, n);
            due(x, "count 0", n);
        }
        x = made("sheet 0 1 40");
        dues(x, -2, "pewBy 0 1 0 -1, pewBy 0 1 0 7, pewBy 0 1 0 MIN, pewBy 0 1 0 MAX");
        due(x, "count 0", 0);
        does(x, "sheet 0 1 0");
        // no place is looked at
        dues(x, 0, "pewBy 0 1 0 0, pewBy 0 1 1 0, pewBy 0 1 -1 0, pewBy 0 1 MIN 0, pewBy 0 1 MAX 0");

        of(36, "how many came (others are left out).");
        x = row(made("person 0 0"), 0, 2, 60, 0, -1, 0, 0, 100, 0, -1, 33, 44);
        due("one of five", call(x, "pewBy 0 2 0 5"), 1);
        due(x, "count 0", 2);
        due(x, "told 1 0", 44);
        due("none of four", call(x, "pewBy 0 2 0 4"), 0);
        x = row(made("person 0 0, person 0 0, person 0 0, person 0 0"), 0, 2, 1, 1, 60, 0, 2, 2, 3, 3, 4, 4, 5, 5);
        due("room for two", call(x, "pewBy 0 2 0 6"), 2);
        due(x, "count 0", 6);
        due(x, "told 4 0", 1);
        due(x, "told 5 0", 2);
        due("room for nobody", call(x, "pewBy 0 2 0 6"), 0);

        of(37, "What lies at place i: 0 .. 5 PEOPLE, 6 .. 11 SORTS,");
        x = made(SIX, hat(10, 11, 12, 13, 14, 15));
        for (int i = 0; i < 6; i++) {
            due(x, "taken " + i + " 0", i);
            due(x, "taken " + (6 + i) + " 6", 10 + i);
            due(x, "taken " + i + " 6", -13);
            due(x, "taken " + (6 + i) + " 0", -13);
        }
        dues(x, -12, "taken -1 0, taken 12 0, taken -1 6, taken 12 6");

        of(37, "taken for 0 .. 5 one of that KIND (also of one that is one): the number;");
        // rows: who is taken; columns: for which KIND
        String[] is = {"1.....", "11....", "1.1...", "11.1..", "1.1.1.", "1....1"};
        for (int i = 0; i < 6; i++) {
            for (int kind = 0; kind < 6; kind++) {
                due(x, "taken " + i + " " + kind, is[i].charAt(kind) == '1' ? i : -13);
            }
        }

        of(37, "6 a SORT: how many are IN THE HAT.");
        for (int w = 0; w < 6; w++) {
            for (int many : new int[] {0, 1, 19, 20}) {
                does(x, "fill " + w + " 1 " + many);
                due(x, "taken " + (6 + w) + " 6", many);
            }
        }
    }
}
