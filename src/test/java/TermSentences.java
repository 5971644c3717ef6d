/** A test of each sentence of 'Terms', each by a promise that rests on it. */
final class TermSentences extends Checks {
    private TermSentences() { }

    private static final int[] WORTHS = {1, 2, 4, 8, 16, 32};

    static void all() {
        sortsAndPeople();
        kinds();
        tokens();
        grammar();
        values();
        faults();
        law();
        theCoin();
        aTurn();
        hatsByLots();
        anImage();
        sheetsAndRefusals();
    }

    // ---- SORTS and PEOPLE

    private static void sortsAndPeople() {
        of(3, "SORTS 0 .. 5 of coins:");
        HatGoesRound x = made("person 0 0");
        dues(x, 0, "fill 0 1 1, fill 5 1 1");
        dues(x, -5, "fill -1 1 1, fill 6 1 1, fill MIN 1 1, fill MAX 1 1");
        dues(x, 1, "hat 0 1, hat 5 1, coin 0 0 0, asks 1 0 0, taken 6 6, taken 11 6");
        dues(x, -5, "hat -1 1, hat 6 1");
        dues(x, 32, "coin 0 5 0, asks 1 0 5");
        dues(x, -6, "coin 0 -1 0, coin 0 6 0");
        dues(x, -1000, "asks 1 0 -2, asks 1 0 6");
        due(x, "taken 12 6", -12);
        tells(x);
        dues(x, 21, "hats 0 0 0, hats 0 5 0");
        dues(x, -5, "hats 0 -1 0, hats 0 6 0");

        of(3, "WORTH (0 .. 99; 1, 2, 4, 8, 16, 32 at first)");
        x = nothing();
        for (int w = 0; w < 6; w++) {
            due(x, "hat " + w + " 0", WORTHS[w]);
            due(x, "fill " + w + " 0 0", WORTHS[w]);
            due(x, "hat " + w + " 0", 0);
            due(x, "fill " + w + " 0 99", 0);
            due(x, "fill " + w + " 0 -1", -7);
            due(x, "fill " + w + " 0 100", -7);
            due(x, "fill " + w + " 0 MIN", -7);
            due(x, "fill " + w + " 0 MAX", -7);
            due(x, "hat " + w + " 0", 99);
        }

        of(3, "IN THE HAT (0 .. 20 of each; none at first)");
        x = nothing();
        due(x, "count 1", 0);
        for (int w = 0; w < 6; w++) {
            due(x, "hat " + w + " 1", 0);
            due(x, "fill " + w + " 1 20", 0);
            due(x, "fill " + w + " 1 21", -7);
            due(x, "fill " + w + " 1 -1", -7);
            due(x, "fill " + w + " 1 MIN", -7);
            due(x, "fill " + w + " 1 MAX", -7);
            due(x, "hat " + w + " 1", 20);
        }
        due(x, "count 1", 120);
        due(x, "fill 3 1 0", 20);
        due(x, "hat 3 1", 0);
        due(x, "count 1", 100);

        of(14, "TURN: who has the hat (0 at first)");
        due(nothing(), "count 6", 0);
        x = made("person 0 0, person 0 0");
        due(x, "count 6", 0);
        due(x, "hand 1", 0);

        // 999 are more than 512 calls can make: this is the most, six SORTS filled again and again
        of(13, "TURNS: how many there were (0 .. 999; 0 at first).");
        x = made("person 0 0");
        due(x, "count 2", 0);
        for (int turns = 0; turns < 480; turns++) {
            for (int w = 0; turns % 120 == 0 && w < 6; w++) {
                does(x, "fill " + w + " 1 20");
            }
            does(x, "pass");
        }
        due(x, "count 2", 480);

        of(9, "PEOPLE are numbered from 0 on, 6 at most:");
        x = nothing();
        for (int p = 0; p < 6; p++) {
            due(x, "count 0", p);
            due(x, "told " + p + " 0", -5);
            due(x, "person 0 " + p, p);
            due(x, "told " + p + " 0", p);
        }
        due(x, "person 0 0", -4);
        due(x, "count 0", 6);
        dues(x, -5, "told 6 0, told -1 0");

        of(9, "of a KIND, with MORE (0 .. 9);");
        for (int kindMore = 0; kindMore < 60; kindMore++) {
            x = made("person " + kindMore + " 0");
            due(x, "told 0 3", kindMore / 10);
            due(x, "told 0 4", kindMore % 10);
        }
        dues(nothing(), -2, "person -1 0, person 60 0");

        of(9, "PRIDE (0 .. 99),");
        x = nothing();
        dues(x, -2, "person 0 -1, person 0 100, person 0 MIN, person 0 MAX");
        due(x, "person 0 0", 0);
        due(x, "person 0 99", 1);
        due(x, "told 0 0", 0);
        due(x, "told 1 0", 99);

        of(10, "PURSE: what one has taken (0 .. 9999; 0 as one comes),");
        x = made("image, person 0 0");
        due(x, "told 0 1", 0);
        due(x, "put 0 1 9999", 0);
        dues(x, -7, "put 0 1 10000, put 0 1 -1");
        due(x, "told 0 1", 9999);
        due(x, "put 0 1 0", 9999);
        due(x, "put 0 1 7", 0);
        does(x, "back, person 0 0");
        due("told 0 1 of one who comes where another was", call(x, "told 0 1"), 0);

        of(11, "LOUD: how loud it was at most (0 as one comes).");
        x = made("image, person 0 40, fill 5 1 1, fill 0 1 1");
        due(x, "told 0 2", 0);
        due(x, "pass", 5);
        due(x, "told 0 2", 32);
        due(x, "pass", 0);
        due(x, "told 0 2", 32);
        does(x, "back, person 0 0");
        due("told 0 2 of one who comes where another was", call(x, "told 0 2"), 0);
    }

    // ---- KINDS

    /** One of this KIND and MORE, PRIDE 50, whom THE LAW lets take, sound and cost so much. */
    private static HatGoesRound one(int kindMore, int takes, int sounds, int costs) {
        return law(made("person " + kindMore + " 50"), "" + takes, "" + sounds, "" + costs);
    }

    /** What one TAKES, a coin SOUNDS, COSTS at TURNS 0. */
    private static void dueOfKind(int kindMore, int[] says, int takes, int sounds, int costs) {
        HatGoesRound x = one(kindMore, says[0], says[1], says[2]);
        String who = "of KIND and MORE " + kindMore;
        due("told 0 5 " + who, call(x, "told 0 5"), takes);
        due("coin 0 0 0 " + who, call(x, "coin 0 0 0"), sounds);
        due("coin 0 5 1 " + who, call(x, "coin 0 5 1"), 1000 + costs);
    }

    private static void kinds() {
        of(12, "KINDS: how much one TAKES, the text saying so much; how loud a coin SOUNDS, the text saying so; "
            + "how much PRIDE it COSTS, the text saying so much. 0 PERSON: that; that; that.");
        for (int more = 0; more <= 9; more += 9) {
            dueOfKind(more, new int[] {0, 0, -99}, 0, 0, -99);
            dueOfKind(more, new int[] {1, 2, 0}, 1, 2, 0);
            dueOfKind(more, new int[] {98, 97, 96}, 98, 97, 96);
            dueOfKind(more, new int[] {99, 99, 99}, 99, 99, 99);
        }

        of(11, "1 RICH (a PERSON): TAKES a quarter (cut);");
        int[] takes = {0, 1, 2, 3, 4, 5, 7, 8, 95, 96, 98, 99};
        int[] quarters = {0, 0, 0, 0, 1, 1, 1, 2, 23, 24, 24, 24};
        for (int i = 0; i < takes.length; i++) {
            due("told 0 5 of " + takes[i], call(one(19, takes[i], 0, 0), "told 0 5"), quarters[i]);
        }

        due("told 0 5 of the bound", call(law(made("person 19 0"), "9999", "0", "0"), "told 0 5"), 24);

        of(12, "SOUNDS MORE more.");
        due("MORE 0, silent", call(one(10, 0, 0, 0), "coin 0 0 0"), 0);
        due("MORE 0, at the bound", call(one(10, 0, 99, 0), "coin 0 0 0"), 99);
        due("MORE 1", call(one(11, 0, 50, 0), "coin 0 0 0"), 51);
        due("MORE 9, silent", call(one(19, 0, 0, 0), "coin 0 0 0"), 9);
        due("MORE 9, at the bound of the text", call(one(19, 0, 99, 0), "coin 0 0 0"), 108);

        of(11, "2 POOR (a PERSON): TAKES 5 times MORE more;");
        due("MORE 0", call(one(20, 0, 0, 0), "told 0 5"), 0);
        due("MORE 0, at the bound", call(one(20, 99, 0, 0), "told 0 5"), 99);
        due("MORE 1", call(one(21, 10, 0, 0), "told 0 5"), 15);
        due("MORE 9", call(one(29, 0, 0, 0), "told 0 5"), 45);
        due("MORE 9, at the bound of the text", call(one(29, 99, 0, 0), "told 0 5"), 144);
        due("MORE 1, beyond the bound of the text", call(law(made("person 21 0"), "9999", "0", "0"), "told 0 5"), 104);
        due("MORE 1, beyond the bound of the text", call(law(made("person 21 0"), "-9999", "0", "0"), "told 0 5"), 5);

        of(12, "COSTS twice.");
        due("beyond the bound of the text", call(law(made("person 20 0"), "0", "0", "9999"), "coin 0 0 1"), 1198);
        due("beyond the bound of the text", call(law(made("person 20 0"), "0", "0", "-9999"), "coin 0 0 1"), 802);
        int[] costs = {-99, -98, -1, 0, 1, 98, 99};
        for (int c : costs) {
            due("COSTS of " + c, call(one(29, 0, 0, c), "coin 0 0 1"), 1000 + 2 * c);
        }

        of(12, "3 STIRRING (a RICH): SOUNDS three times a RICH's;");
        due("MORE 0, silent", call(one(30, 0, 0, 0), "coin 0 0 0"), 0);
        due("MORE 0", call(one(30, 0, 5, 0), "coin 0 0 0"), 15);
        due("MORE 1", call(one(31, 0, 5, 0), "coin 0 0 0"), 18);
        due("MORE 9, silent", call(one(39, 0, 0, 0), "coin 0 0 0"), 27);
        due("MORE 9, at the bound of the text", call(one(39, 0, 99, 0), "coin 0 0 0"), 324);

        of(11, "TAKES MORE, if TURNS is even, else as a RICH.");
        for (int more = 0; more <= 9; more += 3) {
            HatGoesRound x = made("person 50 0, person 3" + more + " 87, fill 0 1 4");
            due("TURNS 0, MORE " + more, call(x, "told 1 5"), more);
            does(x, "pass");
            due("TURNS 1, MORE " + more, call(x, "told 1 5"), 21);
            does(x, "hand 0, pass");
            due("TURNS 2, MORE " + more, call(x, "told 1 5"), more);
            does(x, "hand 0, pass");
            due("TURNS 3, MORE " + more, call(x, "told 1 5"), 21);
        }

        of(12, "4 WIDOW (a POOR): SOUNDS 0;");
        for (int sounds = 0; sounds <= 99; sounds += 33) {
            due("of " + sounds, call(one(49, 0, sounds, 0), "coin 0 5 0"), 0);
            due("of " + sounds, call(one(40, 0, sounds, 0), "coin 0 5 0"), 0);
        }

        of(12, "COSTS MORE less than a POOR.");
        for (int c : costs) {
            due("MORE 0, COSTS of " + c, call(one(40, 0, 0, c), "coin 0 0 1"), 1000 + 2 * c);
            due("MORE 1, COSTS of " + c, call(one(41, 0, 0, c), "coin 0 0 1"), 999 + 2 * c);
            due("MORE 9, COSTS of " + c, call(one(49, 0, 0, c), "coin 0 0 1"), 991 + 2 * c);
        }

        of(12, "5 CHILD (a PERSON): TAKES 99; COSTS 0.");
        for (int more = 0; more <= 9; more += 9) {
            dueOfKind(50 + more, new int[] {0, 0, -99}, 99, 0, 0);
            dueOfKind(50 + more, new int[] {98, 0, -1}, 99, 0, 0);
            dueOfKind(50 + more, new int[] {99, 0, 99}, 99, 0, 0);
        }

        of(12, "(Whatever isn't told is as of the KIND above.)");
        for (int c : costs) {
            due("a RICH COSTS as a PERSON", call(one(19, 0, 0, c), "coin 0 0 1"), 1000 + c);
            due("a STIRRING COSTS as a RICH", call(one(39, 0, 0, c), "coin 0 0 1"), 1000 + c);
        }
        for (int s = 0; s <= 99; s += 33) {
            due("a POOR SOUNDS as a PERSON", call(one(29, 0, s, 0), "coin 0 0 0"), s);
            due("a CHILD SOUNDS as a PERSON", call(one(59, 0, s, 0), "coin 0 0 0"), s);
        }
        due("a WIDOW TAKES as a POOR", call(one(40, 99, 0, 0), "told 0 5"), 99);
        due("a WIDOW TAKES as a POOR", call(one(41, 0, 0, 0), "told 0 5"), 5);
        due("a WIDOW TAKES as a POOR", call(one(49, 99, 0, 0), "told 0 5"), 144);
    }

    // ---- THE TAPE and TOKENS

    private static final String REST = ";sounds 1;costs 1;";

    /** Due of "takes E;sounds 1;costs 1;": TEXT 1. */
    private static void stands(String e) {
        due("takes " + e + REST, text(nothing(), "takes " + e + REST), 1);
    }

    /** Due of "takes E;sounds 1;costs 1;": a FAULT, its place counted from the first byte of E. */
    private static void faulty(String e, int place) {
        due("takes " + e + REST, text(nothing(), "takes " + e + REST), -100 - 6 - place);
    }

    private static String byteOf(int b) {
        return String.valueOf((char) b);
    }

    private static void tokens() {
        of(5, "A TEXT is read from THE TAPE (160 bytes at most).");
        HatGoesRound x = nothing();
        String full = "takes 1;sounds 2;costs 3;" + " ".repeat(134);
        feed(x, full);
        due(x, "count 5", 159);
        due(x, "feed 2 32 32 0 0 0", -4);
        due(x, "feed 1 32 0 0 0 0", 160);
        due(x, "feed 1 32 0 0 0 0", -4);
        due(x, "count 5", 160);
        due(x, "text", 1);
        feed(x, " ".repeat(134) + "takes 1;sounds 2;costs 345;".substring(0, 26));
        due(x, "count 5", 160);
        due("the last byte is missing", call(x, "text"), -260);
        due("a WORD at the very end", text(x, " ".repeat(155) + "takes"), -260);
        due("a NUMBER at the very end", text(x, "takes" + " ".repeat(151) + "1234"), -260);
        due("a longer NUMBER at the very end", text(x, "takes" + " ".repeat(150) + "12345"), -255);
        due("a longer WORD at the very end", text(x, " ".repeat(154) + "takess"), -254);

        of(6, "TOKENS, each as long as can be:");
        faulty("notpride", 0);
        faulty("pridenot", 0);
        faulty("pride worthcoins", 6);
        faulty("1 2", 2);
        faulty("pri de", 0);
        faulty("1pride", 1);
        faulty("pride1", 5);
        due("12 is one NUMBER", value("12"), 12);
        due("1and 1 is a NUMBER and a WORD", value("1and 1"), 1);
        due("-1 are a SIGN and a NUMBER", value("3-1"), 2);
        due("--1 are two SIGNS", value("3--1"), 4);

        of(6, "WORDS (as many letters a .. z as stand there),");
        for (int b = 'a'; b <= 'z'; b++) {
            faulty("pride" + byteOf(b), 0);
            faulty(byteOf(b), 0);
            faulty(byteOf(b) + "pride", 0);
        }
        for (int b : new int[] {'a' - 1, 'z' + 1, 'A', 'Z', 'P', '_'}) {
            faulty("pride" + byteOf(b), 5);
            faulty(byteOf(b) + "pride", 0);
        }
        faulty("a".repeat(100), 0);

        of(6, "NUMBERS (as many digits as stand there; more than 4 are too long),");
        for (int d = 0; d <= 9; d++) {
            due("" + d, value("" + d), d);
            due(d + "0-" + d, value(d + "0-" + d), 9 * d);
            stands("" + d + d + d + d);
            faulty("" + d + d + d + d + d, 0);
        }
        due("0", value("0"), 0);
        due("0000", value("0000"), 0);
        due("0009", value("0009"), 9);
        due("9999", value("9999-9950"), 49);
        due("1000", value("1000-999"), 1);
        stands("9999");
        faulty("00000", 0);
        faulty("10000", 0);
        faulty("4294967297", 0);
        faulty("1+00001", 2);
        faulty("1".repeat(100), 0);
        faulty("1" + byteOf('0' - 1), 1);
        faulty("1" + byteOf('9' + 1), 1);

        of(6, "SIGNS ( ) ; + - * < = ;");
        dueOfEachByte();

        of(6, "blanks (32, 10) may stand between.");
        due("no blanks", text(nothing(), "takes(1);sounds-2;costs(3);"), 1);
        due("many", text(nothing(), "takes  1 \n;\n\nsounds \n 2 ; costs\n3 ;"), 1);
        due("ahead and behind", text(nothing(), " \n takes 1;sounds 2;costs 3; \n "), 1);
        for (int b : new int[] {0, 9, 11, 12, 13, 31, 33, 127, 160, 255}) {
            faulty("1" + byteOf(b), 1);
            faulty(byteOf(b) + "1", 0);
        }
        for (int b : new int[] {10, 32}) {
            stands("1" + byteOf(b));
            stands(byteOf(b) + "1");
            faulty("1" + byteOf(b) + "1", 2);
            faulty("pr" + byteOf(b) + "ide", 0);
        }
    }

    /** Each byte behind a ONE, and where a ONE should stand. */
    private static void dueOfEachByte() {
        for (int b = 0; b <= 255; b++) {
            boolean blank = b == 10 || b == 32;
            boolean digit = b >= '0' && b <= '9';
            boolean joins = b == '+' || b == '-' || b == '*' || b == '<' || b == '=';
            if (blank || digit) {
                stands("1" + byteOf(b));
                stands(byteOf(b) + "1");
            } else {
                // behind one that joins, and behind a second ; it is the next TOKEN that can't stand
                faulty("1" + byteOf(b), joins || b == ';' ? 2 : 1);
                if (b == '-') {
                    stands(byteOf(b) + "1");
                } else {
                    faulty(byteOf(b) + "1", b == '(' ? 2 : 0);
                }
            }
        }
    }

    // ---- TEXT, E, AND, NOT, SUM, TERM, ONE

    /** What an E says, if it is -99 .. 99: of one with PRIDE 7, MORE 3, PURSE 25, SORT 2 (WORTH 4), 5 coins IN THE HAT, TURNS 1. */
    private static long value(String e) {
        HatGoesRound x = made("person 3 8, fill 2 1 6, pass, put 0 1 25");
        law(x, "0", "0", e);
        return call(x, "asks 2 0 2");
    }

    private static void dueValue(String e, long want) {
        due(e, value(e), want);
    }

    private static void grammar() {
        of(6, "TEXT: takes E ; sounds E ; costs E ;");
        String[] tokens = {"takes", "1", ";", "sounds", "2", ";", "costs", "3", ";"};
        for (int left = 0; left < tokens.length; left++) {
            StringBuilder without = new StringBuilder();
            StringBuilder twice = new StringBuilder();
            int next = -1;
            int second = -1;
            for (int i = 0; i < tokens.length; i++) {
                if (i != left) {
                    without.append(tokens[i]).append(' ');
                } else {
                    next = without.length();
                    second = twice.length() + tokens[i].length() + 1;
                    twice.append(tokens[i]).append(' ');
                }
                twice.append(tokens[i]).append(' ');
            }
            due(without.toString(), text(nothing(), without.toString()), -100 - next);
            due(twice.toString(), text(nothing(), twice.toString()), -100 - second);
        }
        due("other order", text(nothing(), "takes 1;costs 3;sounds 2;"), -108);
        due("a second TEXT", text(nothing(), "takes 1;sounds 2;costs 3;takes 1;sounds 2;costs 3;"), -125);
        HatGoesRound x = law(made("person 0 0"), "11", "22", "33");
        due(x, "asks 0 0 0", 11);
        due(x, "asks 1 0 0", 22);
        due(x, "asks 2 0 0", 33);

        of(6, "E: AND { or AND }.");
        dueValue("0 or 0", 0);
        dueValue("0 or 0 or 0 or 0 or 5", 1);
        dueValue("1 or 0 and 0", 1);
        dueValue("0 and 0 or 1", 1);
        dueValue("5", 5);
        faulty("or 1", 0);
        faulty("1 or", 4);
        faulty("1 or or 1", 5);
        stands("1" + " or 1".repeat(26));

        of(6, "AND: NOT { and NOT }.");
        dueValue("1 and 1", 1);
        dueValue("1 and 1 and 1 and 1 and 0", 0);
        dueValue("0 and 1", 0);
        dueValue("not 0 and 0", 0);
        dueValue("1 and not 0", 1);
        dueValue("1<2 and 2<3", 1);
        faulty("and 1", 0);
        faulty("1 and", 5);
        faulty("1 and and 1", 6);

        of(6, "NOT: not NOT, or SUM, perhaps < or = and a SUM.");
        dueValue("not 1 = 2", 1);
        dueValue("not 0 < 0", 1);
        dueValue("not 1 + 1", 0);
        dueValue("not not 5", 1);
        dueValue("1+1 = 2", 1);
        dueValue("2 < 1+2", 1);
        faulty("1<2<3", 3);
        faulty("1=1=1", 3);
        faulty("1<2=1", 3);
        faulty("1 < not 1", 4);
        faulty("1 = not 1", 4);
        faulty("1 + not 1", 4);
        faulty("1 * not 1", 4);
        faulty("- not 1", 2);
        faulty("not", 3);
        faulty("1 not 1", 2);
        faulty("<1", 0);
        faulty("1<", 2);
        faulty("1==1", 2);

        of(6, "SUM: TERM { + or - TERM }.");
        dueValue("9-3-2", 4);
        dueValue("9-3+2", 8);
        dueValue("2+3*4", 14);
        dueValue("20-2*3", 14);
        dueValue("1+1+1+1+1+1+1+1+1+1", 10);
        faulty("+1", 0);
        faulty("1+", 2);
        faulty("1++1", 2);
        faulty("1-+1", 2);

        of(6, "TERM: ONE { * ONE }.");
        dueValue("2*3*4", 24);
        dueValue("2*3+4", 10);
        dueValue("2*-3", -6);
        dueValue("-2*3", -6);
        faulty("*1", 0);
        faulty("1*", 2);
        faulty("1**1", 2);

        of(6, "ONE: a NUMBER, a NAME, - ONE, ( E ).");
        dueValue("7", 7);
        dueValue("more", 3);
        dueValue("-7", -7);
        dueValue("--7", 7);
        dueValue("-more", -3);
        dueValue("-(1+2)", -3);
        dueValue("-2+5", 3);
        dueValue("(1+2)*3", 9);
        dueValue("(1 or 1) and 0", 0);
        dueValue("(not 0)+(not 0)", 2);
        dueValue("((5))", 5);
        // as many wait for what is behind them as can be
        StringBuilder all = new StringBuilder("0 or 1 and 1<1+1*");
        for (int open = 1; open <= 5; open++) {
            all.append("(0 or 1 and 1<1+1*");
        }
        dueValue(all + "1)))))", 1);
        dueValue(all + "0)))))", 0);
        dueValue(all + "2)))))", 1);
        dueValue(all + "0))))) or 5", 1);
        faulty("", 0);
        faulty("()", 1);
        faulty("-", 1);
        faulty("(1", 2);
        faulty("1)", 1);
        faulty("(1 2)", 3);
        faulty("takes", 0);
        faulty("sounds", 0);
        faulty("costs", 0);

        of(8, "NAMES: pride worth coins purse turns more.");
        dueValue("pride", 7);
        dueValue("worth", 4);
        dueValue("coins", 5);
        dueValue("purse", 25);
        dueValue("turns", 1);
        dueValue("more", 3);
        for (String name : new String[] {"pride", "worth", "coins", "purse", "turns", "more"}) {
            faulty(name.substring(1), 0);
            faulty(name.substring(0, name.length() - 1), 0);
            faulty(name + "s", 0);
            faulty(name.toUpperCase(), 0);
        }
    }

    private static void values() {
        String least = "8192*8192*32";
        of(8, "An E is an int (32 bits, wrapping):");
        dueValue(least + "<0", 1);
        dueValue(least + "-1<0", 0);
        dueValue("(" + least + "-1)+1<0", 1);
        dueValue("0-" + least + "<0", 1);
        dueValue("-(" + least + ")<0", 1);
        dueValue("-(" + least + ")=" + least, 1);
        dueValue("(-1-(" + least + "-1))-1<0", 0);
        dueValue(least + "+" + least, 0);
        dueValue("8192*8192*64", 0);
        dueValue("8192*8192*64+7", 7);
        dueValue("8192*8192*8192*8192*8192", 0);
        // 9999 * 9999 * 43 is 4299140043, less 4294967296: 4172747
        dueValue("9999*9999*43-4172*1000-700", 47);
        dueValue(least + "<1", 1);
        dueValue("1<" + least, 0);
        dueValue(least + "=0", 0);
        dueValue("0=" + least, 0);
        dueValue("not " + least, 0);
        dueValue(least + " and " + least, 1);

        of(8, "of or, and, not, <, = 1 or 0 (what is not 0 is true).");
        for (int a : new int[] {-2, -1, 0, 1, 2, 99}) {
            for (int b : new int[] {-2, -1, 0, 1, 2, 99}) {
                dueValue("(" + a + ")or(" + b + ")", a != 0 || b != 0 ? 1 : 0);
                dueValue("(" + a + ")and(" + b + ")", a != 0 && b != 0 ? 1 : 0);
                dueValue("(" + a + ")<(" + b + ")", a < b ? 1 : 0);
                dueValue("(" + a + ")=(" + b + ")", a == b ? 1 : 0);
            }
            dueValue("not(" + a + ")", a == 0 ? 1 : 0);
        }
    }

    private static final String[] WORDS = {
        "takes", "sounds", "costs", "or", "and", "not", "pride", "worth", "coins", "purse", "turns", "more",
    };

    /** The place of a WORD that is cut off at the end, so that it is none any more; the text's size, if there is none. */
    private static int earlyEnd(String text) {
        int start = text.length();
        while (start > 0 && Character.isLetter(text.charAt(start - 1))) {
            start--;
        }
        for (String word : WORDS) {
            if (word.equals(text.substring(start))) {
                return text.length();
            }
        }
        return start;
    }

    private static void faults() {
        of(6, "FAULT: the place of the first byte of the first TOKEN that can't stand there");
        faulty("1 + ; ; )", 4);
        faulty("1   pride", 4);
        faulty("1 2345 !", 2);
        faulty("1 and sounds", 6);
        due("nothing stands", text(nothing(), "\n \npride"), -103);
        due("behind the last ;", text(nothing(), "takes 1;sounds 1;costs 1; pride pride"), -126);
        due("of two the first", text(nothing(), "takes 1 1;sounds ;costs ;"), -108);

        of(6, "(the text's size, if it ends too early),");
        due("nothing", text(nothing(), ""), -100);
        due("a blank", text(nothing(), " "), -101);
        due("blanks", text(nothing(), "takes 1 \n "), -110);
        String text = "takes not(pride<1)or-12 ;\nsounds coins*3=4 ; costs 9 and 1 ;";
        for (int size = 0; size < text.length(); size++) {
            String part = text.substring(0, size);
            due("\"" + part + "\"", text(nothing(), part), -100 - earlyEnd(part));
        }
        due("all of it", text(nothing(), text), 1);

        of(6, "also of a byte that begins none,");
        for (int b : new int[] {0, 33, 46, 47, 58, 62, 64, 65, 90, 91, 95, 96, 123, 127, 128, 233, 255}) {
            faulty("1+" + byteOf(b) + "1", 2);
            due("ahead", text(nothing(), byteOf(b)), -100);
            due("behind", text(nothing(), "takes 1" + REST + byteOf(b)), -125);
        }

        of(6, "of a WORD that is neither KEY nor NAME,");
        for (String word : new String[] {"o", "a", "no", "nots", "ands", "ors", "an", "take", "takesx", "sound", "cost", "x", "prid", "mores"}) {
            faulty("1+" + word, 2);
            faulty("1 " + word + " 1", 2);
            due(word, text(nothing(), word + " 1;"), -100);
        }

        for (String word : WORDS) {
            for (int i = 0; i < word.length(); i++) {
                char other = word.charAt(i) == 'z' ? 'a' : (char) (word.charAt(i) + 1);
                String changed = word.substring(0, i) + other + word.substring(i + 1);
                due(changed, text(nothing(), changed), -100);
                faulty("1+" + changed, 2);
            }
        }

        of(6, "a NUMBER that is too long,");
        faulty("1+12345", 2);
        faulty("1 12345", 2);
        faulty("12345", 0);
        faulty("00001", 0);
        stands("1+1234");
        openOnes();
    }

    private static void openOnes() {
        of(6, "a ( , a not, a - ahead of a ONE while 5 of these are open");
        stands("(((((1)))))");
        faulty("((((((1))))))", 5);
        stands("not not not not not 1");
        faulty("not not not not not not 1", 20);
        stands("-----1");
        faulty("------1", 5);
        String[] openers = {"(", "not ", "-"};
        for (int mixed = 0; mixed < 729; mixed++) {
            StringBuilder e = new StringBuilder();
            int lastPlace = 0;
            int notBehindMinus = 0;
            for (int i = 0, rest = mixed; i < 6; i++, rest /= 3) {
                lastPlace = e.length();
                notBehindMinus += rest % 3 == 1 && e.length() > 0 && e.charAt(e.length() - 1) == '-' ? 1 : 0;
                e.append(openers[rest % 3]);
            }
            if (notBehindMinus == 0) {
                dueOfFiveOpen(e.substring(0, lastPlace));
                faulty(e + "1", lastPlace);
            }
        }

        of(6, "(a ( till its ) , not and - till what they belong to ends).");
        stands("(((((1)))))+(((((1)))))");
        stands("(1)+(2)+(3)+(4)+(5)+(((((6)))))");
        stands("(1+((((1)))))");
        faulty("(1+(((((1))))))", 7);
        stands("-----1+-----1");
        stands("-1+(((((1)))))");
        stands("-1*(((((1)))))");
        stands("-1<(((((1)))))");
        stands("-(1)+(((((1)))))");
        stands("--1+(((((1)))))");
        stands("-((((1))))");
        faulty("-(((((1)))))", 5);
        stands("not not not not not 1 and not not not not not 1");
        stands("not 1 and (((((1)))))");
        stands("not 1 or (((((1)))))");
        stands("not not 1 and (((((1)))))");
        stands("(not 1)+(((((1)))))");
        stands("(not 1 or ((((1)))))");
        stands("not 1<((((1))))");
        faulty("not 1<(((((1)))))", 10);
        faulty("not 1=(((((1)))))", 10);
        faulty("not 1+(((((1)))))", 10);
        faulty("not 1*(((((1)))))", 10);
        faulty("not -1+(((((1)))))", 11);
        due("each E anew", text(nothing(), "takes (((((1)))));sounds -----1;costs (((((1)))));"), 1);
    }

    /** Five that are open ahead of a 1 stand, and say what they say from the last to the first. */
    private static void dueOfFiveOpen(String five) {
        int says = 1;
        StringBuilder closed = new StringBuilder(five).append('1');
        for (int i = five.length() - 1; i >= 0; i--) {
            switch (five.charAt(i)) {
                case '(': closed.append(')'); break;
                case '-': says = -says; break;
                case 'n': says = says == 0 ? 1 : 0; break;
                default: break;
            }
        }
        dueValue(closed.toString(), says);
    }

    // ---- TEXTS and THE LAW

    private static void law() {
        of(6, "TEXTS are numbered from 0 on, 6 at most;");
        HatGoesRound x = nothing();
        due(x, "count 3", 1);
        for (int t = 1; t <= 5; t++) {
            due("text() " + t, text(x, "takes " + t + REST), t);
            due(x, "count 3", t + 1);
        }
        due("text() 6", text(x, "takes 6" + REST), -4);
        due(x, "count 3", 6);
        does(x, "person 0 50");
        due(x, "force 6", -2);
        for (int t = 5; t >= 1; t--) {
            due(x, "force " + t, t == 5 ? 0 : t + 1);
            due(x, "asks 0 0 0", t);
        }

        of(8, "TEXT 0, at first, and THE LAW: takes pride ; sounds worth ; costs 1 ;");
        x = made("person 7 37");
        due(x, "count 4", 0);
        due(x, "asks 0 0 3", 37);
        due(x, "asks 0 0 -1", 37);
        for (int w = 0; w < 6; w++) {
            due(x, "asks 1 0 " + w, WORTHS[w]);
            due(x, "asks 2 0 " + w, 1);
        }
        law(x, "1", "2", "3");
        due(x, "asks 0 0 3", 1);
        due(x, "force 0", 1);
        due(x, "asks 0 0 3", 37);

        boundsOfTheLaw();

        of(11, "of one of PEOPLE and a SORT (of takes none):");
        for (int kind = 0; kind < 6; kind++) {
            int[] ofNone = {40, 10, 55, 10, 55, 99};
            HatGoesRound one = law(made("person 50 0, person " + kind + "3 0, fill 0 0 50, fill 0 1 2, pass"), "40+worth", "0", "0");
            due("takes of KIND " + kind, call(one, "told 1 5"), ofNone[kind]);
        }
        x = law(made("person 0 10, person 9 20, fill 3 1 1"), "7+worth*50+(pride=20)+more", "pride+worth", "pride-worth");
        due(x, "told 0 5", 7);
        due(x, "told 1 5", 17);
        due(x, "asks 0 0 3", 99);
        due(x, "coin 0 3 0", 18);
        due(x, "coin 1 0 0", 21);
        due(x, "coin 0 3 1", 1002);
        due(x, "coin 1 0 1", 1019);

        names();
    }

    private static void boundsOfTheLaw() {
        of(8, "(takes, sounds 0 .. 99, costs -99 .. 99, else the bound),");
        String[] e = {"8192*8192*32", "-9999", "-100", "-99", "-98", "-1", "0", "1", "98", "99", "100", "9999", "8192*8192*32-1"};
        int[] above = {0, 0, 0, 0, 0, 0, 0, 1, 98, 99, 99, 99, 99};
        int[] both = {-99, -99, -99, -99, -98, -1, 0, 1, 98, 99, 99, 99, 99};
        for (int i = 0; i < e.length; i++) {
            HatGoesRound x = law(made("person 0 50"), e[i], e[i], e[i]);
            due("takes " + e[i], call(x, "asks 0 0 0"), above[i]);
            due("takes " + e[i], call(x, "told 0 5"), above[i]);
            due("sounds " + e[i], call(x, "asks 1 0 0"), above[i]);
            due("sounds " + e[i], call(x, "coin 0 0 0"), above[i]);
            due("costs " + e[i], call(x, "asks 2 0 0"), both[i]);
            due("costs " + e[i], call(x, "coin 0 0 1"), 1000 + both[i]);
        }
    }

    private static void names() {
        of(8, "pride: PRIDE;");
        HatGoesRound x = law(made("person 0 0, person 0 99"), "0", "0", "pride");
        due(x, "asks 2 0 0", 0);
        due(x, "asks 2 1 0", 99);
        does(x, "put 0 0 45");
        due(x, "asks 2 0 0", 45);

        of(8, "worth: WORTH of it (of none 0);");
        x = law(made("person 0 0, fill 0 0 0, fill 5 0 99"), "worth", "worth", "worth");
        for (int part = 0; part <= 2; part++) {
            due(x, "asks " + part + " 0 0", 0);
            due(x, "asks " + part + " 0 1", 2);
            due(x, "asks " + part + " 0 5", 99);
            due(x, "asks " + part + " 0 -1", 0);
        }

        of(8, "coins: how many are IN THE HAT, of all SORTS;");
        x = law(made("person 0 0"), "0", "0", "coins-60");
        due(x, "asks 2 0 0", -60);
        for (int w = 0; w < 6; w++) {
            does(x, "fill " + w + " 1 " + (w + 1));
            due(x, "asks 2 0 0", -60 + (w + 1) * (w + 2) / 2);
        }
        for (int w = 0; w < 6; w++) {
            does(x, "fill " + w + " 1 20");
        }
        due(x, "asks 2 0 0", 60);
        does(x, "pass");
        due(x, "asks 2 0 0", 59);

        of(8, "purse: PURSE, 99 at most;");
        x = law(made("person 0 0, person 0 0"), "0", "0", "purse-1");
        int[] purses = {0, 1, 98, 99, 100, 101, 9999};
        int[] says = {-1, 0, 97, 98, 98, 98, 98};
        for (int i = 0; i < purses.length; i++) {
            does(x, "put 0 1 " + purses[i]);
            due(x, "asks 2 0 0", says[i]);
            due(x, "asks 2 1 0", -1);
        }

        of(8, "turns: TURNS;");
        x = law(made("person 0 0"), "0", "0", "turns-99");
        for (int w = 0; w < 6; w++) {
            does(x, "fill " + w + " 1 20");
        }
        for (int turns = 0; turns <= 120; turns++) {
            due(x, "asks 2 0 0", turns - 99);
            if (turns < 120) {
                does(x, "pass");
            }
        }

        of(8, "more: MORE.");
        for (int more = 0; more <= 9; more++) {
            due("of MORE " + more, call(law(made("person 5" + more + " 0"), "0", "0", "more"), "asks 2 0 0"), more);
        }
    }

    // ---- THE COIN and A TURN

    private static void theCoin() {
        of(11, "THE COIN of one: of SORTS that are IN THE HAT that of most WORTH, of those of WORTH that one TAKES, or less;");
        HatGoesRound x = made("person 0 0, fill 0 1 1, fill 1 1 1, fill 2 1 1, fill 3 1 1, fill 4 1 1, fill 5 1 1");
        int[] takes = {1, 2, 3, 4, 7, 8, 9, 15, 16, 17, 31, 32, 33, 99};
        int[] coins = {0, 1, 1, 2, 2, 3, 3, 3, 4, 4, 4, 5, 5, 5};
        for (int i = 0; i < takes.length; i++) {
            does(x, "put 0 0 " + takes[i]);
            due("told 0 6 of who takes " + takes[i], call(x, "told 0 6"), coins[i]);
        }
        does(x, "fill 4 1 0, put 0 0 16");
        due("SORT 4 is not in the hat", call(x, "told 0 6"), 3);
        does(x, "fill 1 0 99, put 0 0 98");
        due("WORTH 99 of who takes 98", call(x, "told 0 6"), 5);
        does(x, "put 0 0 99");
        due("WORTH 99 of who takes 99", call(x, "told 0 6"), 1);
        does(x, "fill 3 0 0, put 0 0 0");
        due("WORTH 0 of who takes 0", call(x, "told 0 6"), 3);
        does(x, "person 29 99");
        due("WORTH 99 of who takes 144", call(x, "told 1 6"), 1);

        of(11, "are there none, that of least WORTH;");
        x = made("person 0 0, fill 3 1 1, fill 4 1 1, fill 5 1 1");
        due("the first", call(x, "told 0 6"), 3);
        does(x, "fill 4 0 7");
        due("the middle one", call(x, "told 0 6"), 4);
        does(x, "fill 5 0 6, put 0 0 5");
        due("the last", call(x, "told 0 6"), 5);
        does(x, "put 0 0 6");
        due("there is one", call(x, "told 0 6"), 5);
        does(x, "put 0 0 7");
        due("there is one of more", call(x, "told 0 6"), 4);
        does(x, "fill 3 0 99, fill 4 0 99, fill 5 0 99, put 0 0 98");
        due("all of WORTH 99", call(x, "told 0 6"), 3);

        of(11, "of like ones the first;");
        x = made("person 0 10, fill 0 1 1, fill 5 1 1, fill 0 0 10, fill 5 0 10, fill 3 1 1");
        due("0 and 5, of most", call(x, "told 0 6"), 0);
        does(x, "fill 2 1 1, fill 2 0 10, fill 0 1 0");
        due("2 and 5, of most", call(x, "told 0 6"), 2);
        does(x, "fill 3 0 10, put 0 0 9");
        due("2, 3 and 5, of least", call(x, "told 0 6"), 2);
        does(x, "fill 2 1 0");
        due("3 and 5, of least", call(x, "told 0 6"), 3);
        does(x, "fill 0 1 1");
        due("0, 3 and 5, of least", call(x, "told 0 6"), 0);

        of(11, "-1: the hat is empty.");
        x = made("person 0 99, person 50 0");
        dues(x, -1, "told 0 6, told 1 6");
        does(x, "fill 5 1 1");
        dues(x, 5, "told 0 6, told 1 6");
        does(x, "pass");
        dues(x, -1, "told 0 6, told 1 6");
    }

    private static void aTurn() {
        of(13, "A TURN, of who has the hat (is there nobody: nothing):");
        HatGoesRound x = made("person 0 1, person 0 2, person 0 4, fill 0 1 5, fill 1 1 5, fill 2 1 5, hand 2");
        due(x, "pass", 2);
        due(x, "told 2 1", 4);
        dues(x, 0, "told 0 1, told 1 1");
        does(x, "hand 1");
        due(x, "pass", 1);
        due(x, "told 1 1", 2);
        due(x, "told 0 1", 0);
        HatGoesRound nobody = made("fill 4 1 2");
        tells(nobody, 0, 0);
        due(nobody, "judge 0", -1);
        due(nobody, "run 5 0", 2);
        due(nobody, "run 5 2", 0);
        due(nobody, "film 1 2", 2);
        due(nobody, "judge 1", -1);
        due(nobody, "pass", -3);
        due(nobody, "count 2", 0);
        due(nobody, "count 6", 0);
        due(nobody, "count 1", 2);

        toldAhead();

        of(13, "1 less of the SORT is IN THE HAT;");
        x = made("person 0 8, fill 3 1 20, fill 2 1 20");
        for (int many = 19; many >= 0; many--) {
            due(x, "pass", 3);
            does(x, "put 0 0 8");
            due(x, "hat 3 1", many);
            due(x, "count 1", many + 20);
        }
        due(x, "hat 2 1", 20);
        due(x, "pass", 2);
        due(x, "hat 3 1", 0);

        of(13, "PURSE is more by its WORTH (9999 at most);");
        int[][] purses = {{0, 0, 0}, {0, 99, 99}, {9998, 1, 9999}, {9998, 2, 9999}, {9900, 98, 9998}, {9900, 99, 9999}, {9901, 99, 9999},
            {9999, 0, 9999}, {9999, 1, 9999}, {9999, 99, 9999}};
        for (int[] purse : purses) {
            x = made("person 0 99, person 0 0, fill 0 1 1, fill 0 0 " + purse[1] + ", put 0 1 " + purse[0]);
            due("run 1 10, PURSE " + purse[0] + ", WORTH " + purse[1], call(x, "run 1 10"), purse[2]);
            due(x, "pass", 0);
            due("told 0 1, PURSE " + purse[0] + ", WORTH " + purse[1], call(x, "told 0 1"), purse[2]);
            due(x, "told 1 1", 0);
        }

        of(13, "LOUD is how it SOUNDS, if that is more;");
        x = made("person 0 99, fill 0 1 20, fill 0 0 5");
        int[] sounds = {0, 5, 4, 5, 6, 0, 99, 98};
        int[] louds = {0, 5, 5, 5, 6, 6, 99, 99};
        for (int i = 0; i < sounds.length; i++) {
            does(x, "fill 0 0 " + sounds[i] + ", pass");
            due("told 0 2, SOUNDS " + sounds[i], call(x, "told 0 2"), louds[i]);
        }
        x = made("person 39 0, fill 0 1 1, fill 0 0 99, pass");
        due("told 0 2 of who SOUNDS 324", call(x, "told 0 2"), 324);

        of(13, "PRIDE is less by what it COSTS (0 .. 99, else the bound).");
        int[][] prides = {{5, 4, 1}, {5, 5, 0}, {5, 6, 0}, {0, 0, 0}, {0, 1, 0}, {0, 99, 0}, {99, 99, 0}, {99, 98, 1}, {98, 99, 0},
            {94, -4, 98}, {94, -5, 99}, {94, -6, 99}, {99, -1, 99}, {99, -99, 99}, {0, -99, 99}, {0, -98, 98}, {50, 0, 50}};
        for (int[] pride : prides) {
            x = law(made("person 0 " + pride[0] + ", person 0 33, fill 0 1 1"), "9", "9", "" + pride[1]);
            due("run 1 20, PRIDE " + pride[0] + ", COSTS " + pride[1], call(x, "run 1 20"), pride[2]);
            does(x, "pass");
            due("told 0 0, PRIDE " + pride[0] + ", COSTS " + pride[1], call(x, "told 0 0"), pride[2]);
            due(x, "told 1 0", 33);
        }
        due("a POOR: twice 99", call(law(made("person 20 99, fill 0 1 1"), "9", "9", "99"), "run 1 20"), 0);
        due("a POOR: twice -99", call(law(made("person 20 0, fill 0 1 1"), "9", "9", "-99"), "run 1 20"), 99);
        due("a WIDOW: 9 less than 0", call(law(made("person 49 50, fill 0 1 1"), "9", "9", "0"), "run 1 20"), 59);

        of(13, "Then the next one by numbers has the hat (behind the last one 0),");
        for (int people = 1; people <= 6; people++) {
            x = made("fill 0 1 20");
            for (int p = 0; p < people; p++) {
                does(x, "person 0 0");
            }
            for (int i = 1; i <= 2 * people; i++) {
                does(x, "pass");
                due("count 6 of " + people + " after " + i, call(x, "count 6"), i % people);
                due("run " + people + " 2", call(x, "run " + people + " 2"), i % people);
            }
        }
        x = made("person 0 0, person 0 0, fill 0 1 9, hand 1, person 0 0, pass");
        due("one has come behind the last", call(x, "count 6"), 2);

        // when nothing is taken, no later call can tell TURNS: the hat of a told round is empty from then on
        of(13, "TURNS is 1 more (999 at most), also if nothing was taken.");
        x = made("person 0 8, fill 0 1 2");
        due(x, "count 2", 0);
        due(x, "pass", 0);
        due(x, "count 2", 1);
        due(x, "pass", 0);
        due(x, "count 2", 2);
        due(x, "pass", -3);
        due(x, "count 2", 2);
        tells(x, 0, 0, 0);
        due("nothing is taken, again and again", call(x, "judge 0"), -1);
        x = law(made("person 0 8, person 0 8, fill 0 1 4"), "0", "0", "turns");
        due("PRIDE less by TURNS 0, 2", call(x, "run 4 20"), 6);
        due("PRIDE less by TURNS 1, 3", call(x, "run 4 21"), 4);
    }

    private static void toldAhead() {
        of(13, "THE COIN of that one, if there is one (SOUNDS, COSTS told ahead):");
        String[] e = {"coins", "purse", "pride", "turns", "worth"};
        // 6 coins, PURSE 30, PRIDE 50, TURNS 1, WORTH 4 ahead of it
        int[] says = {6, 30, 50, 1, 4};
        for (int i = 0; i < e.length; i++) {
            HatGoesRound x = made("person 50 7, person 0 50, put 1 1 30, fill 0 1 7, fill 0 0 4, pass");
            law(x, "99", e[i], e[i]);
            due(x, "pass", 0);
            due("LOUD by " + e[i], call(x, "told 1 2"), says[i]);
            due("PRIDE by " + e[i], call(x, "told 1 0"), 50 - says[i]);
        }
        HatGoesRound x = made("person 50 0, person 33 20, fill 0 1 1, fill 1 1 1, fill 2 1 1");
        due(x, "pass", 2);
        // TURNS is 1: she TAKES 5; SOUNDS 3 * (2 + 3)
        due(x, "pass", 1);
        due(x, "told 1 2", 15);
        due(x, "told 1 0", 19);
        x = made("person 0 8");
        tells(x, 0);
        due("there is none", call(x, "judge 0"), -1);
        due("told 0 0", call(x, "told 0 0"), 8);
        dues(x, 0, "run 1 10, run 1 30");
    }

    // ---- HATS by LOTS, AN IMAGE, SHEETS

    private static void hatsByLots() {
        of(29, "HATS by a SEED (0 .. 99999), of n coins, in thought:");
        HatGoesRound x = made("person 0 99");
        dues(x, -2, "drawn -1 1 0, drawn 100000 1 0, drawn MIN 1 0, drawn MAX 1 0");
        // LOTS 48271 (SORT 1) and 532132706 (SORT 2)
        due(x, "drawn 0 1 0", 2);
        due(x, "drawn 99999 1 0", 4);
        dues(x, NO, "odds -1 1 0 0, odds 100000 1 0 0");
        due(x, "odds 99999 1 0 0", 1);
        dues(x, 0, "count 1, count 2, told 0 1, told 0 2");
        due(x, "told 0 0", 99);

        of(29, "each time a LOT: 1 more of SORT LOT modulo 6 is IN THE HAT (20 at most);");
        for (int many = 0; many <= 20; many++) {
            x = made("person 0 99, fill 1 1 " + many);
            due("drawn 0 1 0 with " + many, call(x, "drawn 0 1 0"), 2 * Math.min(20, many + 1));
            due(x, "hat 1 1", many);
        }
        x = made("person 0 99, fill 5 1 18");
        due("five of SORT 5 more", call(x, "drawn 0 10 0"), 8 + 32 * 20);

        of(29, "then TURNS, till it is empty (is there nobody: none).");
        x = made("person 0 99, person 0 0, fill 1 1 20, hand 1");
        // 1 takes of SORT 1 or 0 in turn with 0, who takes SORT 5 first
        due(x, "drawn 0 0 0", 20);
        due(x, "drawn 0 0 1", 0);
        due(x, "drawn 0 1 1", 0);
        due(x, "drawn 0 2 1", 1);
        due(made("fill 1 1 20"), "drawn 0 5 1", -1);
        due(made("fill 1 1 20"), "drawn 0 5 0", 0);

        of(29, "LOTS: the first is (SEED and 1) times 48271 modulo 2147483647, each further one the last times 48271 modulo 2147483647.");
        x = made("person 0 99");
        // 48271, 182605794, 1291394886, 1914720637, 2078669041, 407355683, 1105902161, 854716505, 564586691, 1596680831
        int[] sums = {0, 2, 3, 4, 6, 8, 40, 72, 104, 136, 168};
        for (int n = 0; n < sums.length; n++) {
            due(x, "drawn 0 " + n + " 0", sums[n]);
        }
        for (int seed : new int[] {0, 1, 44488, 44489, 50000, 88977, 99998, 99999}) {
            long lot = seed + 1;
            int sum = 0;
            for (int n = 1; n <= 30; n++) {
                lot = lot * 48271 % 2147483647L;
                sum += WORTHS[(int) (lot % 6)];
                due(x, "drawn " + seed + " " + n + " 0", sum);
            }
        }
    }

    private static void anImage() {
        of(32, "AN IMAGE keeps PRIDE, PURSE, LOUD of all, how many PEOPLE there are, WORTHS, what is IN THE HAT, TURN, TURNS, THE LAW.");
        HatGoesRound x = nothing();
        for (int p = 0; p < 6; p++) {
            does(x, "person " + (11 * p) + " " + (10 + p));
        }
        for (int w = 0; w < 6; w++) {
            does(x, "fill " + w + " 0 " + (20 + w), "fill " + w + " 1 2", "pass", "put " + w + " 1 " + (40 + w), "put " + w + " 0 " + (50 + w));
        }
        law(x, "1", "2", "3");
        does(x, "hand 4");
        long[] louds = new long[6];
        for (int p = 0; p < 6; p++) {
            louds[p] = call(x, "told " + p + " 2");
        }
        due(x, "image", 6);
        law(x, "99", "99", "-99");
        for (int p = 0; p < 6; p++) {
            does(x, "hand " + p, "pass", "put " + p + " 1 7", "put " + p + " 0 8", "fill " + p + " 0 9", "fill " + p + " 1 10");
        }
        due(x, "back", 6);
        for (int p = 0; p < 6; p++) {
            due(x, "told " + p + " 0", 50 + p);
            due(x, "told " + p + " 1", 40 + p);
            due(x, "told " + p + " 2", louds[p]);
            due(x, "told " + p + " 3", p);
            due(x, "told " + p + " 4", p);
            due(x, "hat " + p + " 0", 20 + p);
        }
        due(x, "count 1", 6);
        due(x, "count 6", 4);
        due(x, "count 2", 6);
        due(x, "count 4", 1);
        due(x, "count 3", 3);
        x = made("person 0 8, fill 3 1 5, fill 2 1 1, image, fill 3 1 4, fill 2 1 20, fill 0 1 3, person 0 0, hand 1, back");
        due(x, "hat 3 1", 5);
        due(x, "hat 2 1", 1);
        due(x, "hat 0 1", 0);
        due(x, "count 1", 6);
        due(x, "count 0", 1);
        due(x, "count 6", 0);
    }

    private static void sheetsAndRefusals() {
        of(33, "SHEETS 0 .. 3 are rows of numbers, or missing (as all are at first):");
        HatGoesRound x = nothing();
        for (int s = 0; s < 4; s++) {
            dues(x, -11, "judge " + s, "cell " + s + " 0 0", "starts " + s, "pewBy " + s + " 0 0 0");
            due(x, "sheet " + s + " 2 3", 1);
            due(x, "cell " + s + " 2 0", 1);
            // nobody takes anything: three 0 are as it is
            due(x, "judge " + s, -1);
        }
        dues(x, -2, "judge -1, judge 4, cell -1 0 0, cell 4 0 0, sheet -1 0 0, sheet 4 0 0, film -1 0, film 4 0, judge MIN, judge MAX");

        of(33, "of sort 0 bytes, 1 shorts, 2 ints, 40 at most.");
        x = nothing();
        for (int sort = 0; sort <= 2; sort++) {
            due(x, "sheet 0 " + sort + " 40", 1);
            due(x, "cell 0 39 1", 1);
            due(x, "cell 0 40 1", -12);
            due(x, "sheet 0 " + sort + " 41", -2);
            due(x, "sheet 0 " + sort + " 0", 1);
            due(x, "cell 0 0 1", -12);
            row(x, 1, sort, 47, 5);
            does(x, "image");
            due(x, "pewBy 1 " + sort + " 0 1", 1);
            row(x, 1, sort, 47 + 256, 5);
            due(x, "pewBy 1 " + sort + " 0 1", sort == 0 ? 1 : 0);
            row(x, 1, sort, 47, 5 + 65536);
            due(x, "pewBy 1 " + sort + " 0 1", sort < 2 ? 1 : 0);
            does(x, "back");
        }
        dues(x, -2, "sheet 0 3 1, sheet 0 -2 1");

        of(37, "NONE there is no such thing; BAD a number is not as told; STATE as told; FULL.");
        due("NONE", HatGoesRound.NONE, -1);
        due("BAD", HatGoesRound.BAD, -2);
        due("STATE", HatGoesRound.STATE, -3);
        due("FULL", HatGoesRound.FULL, -4);
        due("NO", HatGoesRound.NO, NO);
        due(nothing(), "end 0", -1);
        due(nothing(), "count 7", -2);
        due(nothing(), "pass", -3);
        due(made("person 0 0, person 0 0, person 0 0, person 0 0, person 0 0, person 0 0"), "person 0 0", -4);

        of(37, "The host's: -11 nothing there, -12 a place outside, -13 of another sort or KIND, -14 a size below 0.");
        x = row(made("person 0 0"), 0, 1, 1, 2);
        does(x, "sheet 1 2 2");
        dues(x, -11, "cell 3 0 0, copy 0 0 3 0 1, pewBy 3 1 0 1, taken 1 0, judge 3");
        dues(x, -12, "cell 0 2 0, copy 0 1 0 0 2, pewBy 0 1 1 1, taken 12 0");
        dues(x, -13, "copy 0 0 1 0 1, pewBy 0 0 0 1, taken 0 1, taken 0 6, taken 6 0");
        dues(x, -14, "sheet 0 1 -1");
    }
}
