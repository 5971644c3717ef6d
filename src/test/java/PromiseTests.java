/** For each promise of ../shared/DOC.md: ordinary calls, the edges that it names, and wrong ones, in the order of refusal. */
public final class PromiseTests {
    private static final int MIN = Integer.MIN_VALUE, MAX = Integer.MAX_VALUE;
    private static final long NO = -4611686018427387904L;
    private static int wrong = 0;
    private static int asked = 0;
    private static int promise = 0;

    private static void due(String call, long got, long want) {
        asked++;
        if (got != want) {
            wrong++;
            System.out.println("promise " + promise + ": " + call + " answered " + got + ", due is " + want);
        }
    }

    // ---- what the tests are made with

    private static int feed(HatGoesRound x, String text) {
        int size = x.count(5);
        for (int i = 0; i < text.length(); i++) {
            size = x.feed(1, text.charAt(i), 0, 0, 0, 0);
        }
        return size;
    }

    private static int text(HatGoesRound x, String text) {
        feed(x, text);
        return x.text();
    }

    /** What an E says of one (PRIDE 7, MORE 3, PURSE 250) and SORT 2 (WORTH 4) with 5 coins IN THE HAT: told as costs. */
    private static int says(String e) {
        HatGoesRound x = new HatGoesRound();
        x.person(3, 7);
        x.put(0, 1, 250);
        x.fill(2, 1, 5);
        x.force(text(x, "takes 0;sounds 0;costs " + e + ";"));
        return x.asks(2, 0, 2);
    }

    /** The FAULT of "takes E" and what follows it; the first byte of E has place 6. */
    private static int fault(String rest) {
        return text(new HatGoesRound(), "takes " + rest);
    }

    /** Nobody; 3, 0, 0, 2, 0, 1 coins: of WORTH 1, 8 and 32. */
    private static HatGoesRound smallHat() {
        HatGoesRound x = new HatGoesRound();
        x.fill(0, 1, 3);
        x.fill(3, 1, 2);
        x.fill(5, 1, 1);
        return x;
    }

    /** The small hat, and two PERSONS of PRIDE 10 and 40: they take 8, 32, 8, 1, 1, 1. */
    private static HatGoesRound smallPew() {
        HatGoesRound x = smallHat();
        x.person(0, 10);
        x.person(0, 40);
        return x;
    }

    private static void tell(HatGoesRound x, int s, int... sorts) {
        x.sheet(s, 0, sorts.length);
        for (int i = 0; i < sorts.length; i++) {
            x.cell(s, i, sorts[i]);
        }
    }

    private static HatGoesRound fullPew() {
        HatGoesRound x = new HatGoesRound();
        for (int w = 0; w < 6; w++) {
            x.fill(w, 1, 20);
        }
        for (int kind = 0; kind < 6; kind++) {
            x.person(10 * kind + kind, 15 * kind);
        }
        return x;
    }

    // ---- the hat, the law, people

    private static void aNewObject() {
        HatGoesRound x = new HatGoesRound();
        int[] counts = {0, 0, 0, 1, 0, 0, 0};
        for (int what = 0; what < counts.length; what++) {
            due("count(" + what + ")", x.count(what), counts[what]);
        }
        for (int w = 0; w < 6; w++) {
            due("hat(" + w + ", 0)", x.hat(w, 0), 1 << w);
            due("hat(" + w + ", 1)", x.hat(w, 1), 0);
        }
        due("told(0, 0)", x.told(0, 0), -5);
        due("back()", x.back(), -3);
        for (int s = 0; s < 4; s++) {
            due("judge(" + s + ")", x.judge(s), -11);
        }
        due("NONE", HatGoesRound.NONE, -1);
        due("BAD", HatGoesRound.BAD, -2);
        due("STATE", HatGoesRound.STATE, -3);
        due("FULL", HatGoesRound.FULL, -4);
        due("NO", HatGoesRound.NO, NO);
    }

    private static void count() {
        HatGoesRound x = smallPew();
        x.pass();
        text(x, "takes 1; sounds 1; costs 1;");
        text(x, "takes 2; sounds 1; costs 1;");
        x.force(2);
        feed(x, "abcd");
        int[] counts = {2, 5, 1, 3, 2, 4, 1};
        for (int what = 0; what < counts.length; what++) {
            due("count(" + what + ")", x.count(what), counts[what]);
        }
        for (int what : new int[] {-1, 7, MIN, MAX}) {
            due("count(" + what + ")", x.count(what), -2);
        }
    }

    private static void fill() {
        HatGoesRound x = new HatGoesRound();
        due("fill(2, 0, 99)", x.fill(2, 0, 99), 4);
        due("fill(2, 0, 0)", x.fill(2, 0, 0), 99);
        due("hat(2, 0)", x.hat(2, 0), 0);
        due("fill(5, 1, 20)", x.fill(5, 1, 20), 0);
        due("fill(5, 1, 3)", x.fill(5, 1, 3), 20);
        due("hat(5, 1)", x.hat(5, 1), 3);
        due("count(1)", x.count(1), 3);
        due("fill(0, 0, 100)", x.fill(0, 0, 100), -7);
        due("fill(0, 0, -1)", x.fill(0, 0, -1), -7);
        due("fill(0, 1, 21)", x.fill(0, 1, 21), -7);
        due("fill(0, 1, -1)", x.fill(0, 1, -1), -7);
        due("fill(0, 2, 0)", x.fill(0, 2, 0), -7);
        due("fill(0, -1, 0)", x.fill(0, -1, 0), -7);
        due("fill(6, 0, 1)", x.fill(6, 0, 1), -5);
        due("fill(-1, 9, 999)", x.fill(-1, 9, 999), -5);
        due("hat(0, 0)", x.hat(0, 0), 1);
        due("hat(0, 1)", x.hat(0, 1), 0);
    }

    private static void hat() {
        HatGoesRound x = smallHat();
        due("hat(3, 0)", x.hat(3, 0), 8);
        due("hat(3, 1)", x.hat(3, 1), 2);
        due("hat(3, 2)", x.hat(3, 2), 51);
        due("hat(99, 2)", x.hat(99, 2), 51);
        due("hat(6, 0)", x.hat(6, 0), -5);
        due("hat(-1, 1)", x.hat(-1, 1), -5);
        due("hat(6, 3)", x.hat(6, 3), -5);
        due("hat(5, 3)", x.hat(5, 3), -7);
        due("hat(0, -1)", x.hat(0, -1), -7);
    }

    private static void feed() {
        HatGoesRound x = new HatGoesRound();
        due("feed(5, ..)", x.feed(5, 't', 'a', 'k', 'e', 's'), 5);
        due("feed(3, ..)", x.feed(3, ' ', '1', ';', 'x', 'x'), 8);
        due("feed(1, 256 behind)", x.feed(1, 'x', 0, 0, 0, 256), -2);
        due("feed(1, -1 behind)", x.feed(1, 'x', 0, 0, -1, 0), -2);
        due("feed(5, 256)", x.feed(5, 256, 0, 0, 0, 0), -2);
        due("feed(5, b)", x.feed(5, 0, 256, 0, 0, 0), -2);
        due("feed(5, c)", x.feed(5, 0, 0, -1, 0, 0), -2);
        due("feed(0)", x.feed(0, 0, 0, 0, 0, 0), -2);
        due("feed(6)", x.feed(6, 0, 0, 0, 0, 0), -2);
        due("feed(MIN)", x.feed(MIN, 0, 0, 0, 0, 0), -2);
        due("count(5)", x.count(5), 8);
        x.feed(2, 's', 'o', 'x', 'x', 'x');
        x.feed(4, 'u', 'n', 'd', 's', 'x');
        feed(x, " 2;costs 3;");
        due("text() of all bytes in their order", x.text(), 1);
        for (int i = 0; i < 31; i++) {
            x.feed(5, 255, 255, 255, 255, 255);
        }
        due("feed(3) behind 155", x.feed(3, 1, 1, 1, 1, 1), 158);
        due("feed(3) behind 158", x.feed(3, 1, 1, 1, 1, 1), -4);
        due("feed(3, 256) behind 158", x.feed(3, 256, 1, 1, 1, 1), -2);
        due("count(5)", x.count(5), 158);
        due("feed(2) behind 158", x.feed(2, 1, 1, 1, 1, 1), 160);
        due("feed(1) behind 160", x.feed(1, 1, 1, 1, 1, 1), -4);
    }

    private static void text() {
        due("a TEXT", text(new HatGoesRound(), "takes pride ; sounds worth ; costs 1 ;"), 1);
        due("a TEXT with few blanks", text(new HatGoesRound(), "\n takes(pride);sounds-worth;costs\n1; \n"), 1);
        valuesOfTexts();
        faultsOfTexts();
        HatGoesRound x = new HatGoesRound();
        for (int t = 1; t < 6; t++) {
            due("text() " + t, text(x, "takes 1;sounds 1;costs 1;"), t);
            due("count(5)", x.count(5), 0);
        }
        due("count(3)", x.count(3), 6);
        due("a seventh", text(x, "takes 1;sounds 1;costs 1;"), -4);
        due("a seventh with a FAULT", text(x, "!"), -4);
        due("count(5)", x.count(5), 26);
        HatGoesRound y = new HatGoesRound();
        due("a FAULT", text(y, "takes 1;sounds 1;costs"), -122);
        due("count(5)", y.count(5), 0);
        due("count(3)", y.count(3), 1);
        due("a TEXT behind a FAULT", text(y, "takes 4;sounds 5;costs 6;"), 1);
        y.person(0, 50);
        y.force(1);
        due("asks(0)", y.asks(0, 0, 0), 4);
        due("asks(1)", y.asks(1, 0, 0), 5);
        due("asks(2)", y.asks(2, 0, 0), 6);
        text(y, "1111111111111111111111111");
        due("what was on THE TAPE is gone", text(y, "takes 11"), -108);
        text(y, "aaaaaaaaaaaaaaaaaaaaaaaaa");
        due("what was on THE TAPE is gone", text(y, "takes pride"), -111);
        HatGoesRound z = new HatGoesRound();
        StringBuilder full = new StringBuilder("takes 1");
        while (full.length() < 160 - 20) {
            full.append("+1");
        }
        due("160 bytes without the last ;", text(z, full + ";sounds 1;costs 123"), -260);
        due("a TEXT of 160 bytes", text(z, full + ";sounds 1;costs 12;"), 1);
        due("another", text(z, full + ";sounds 3;costs 45;"), 2);
        z.person(0, 0);
        int sum = (full.length() - "takes ".length() + 1) / 2;
        for (int t = 1; t <= 2; t++) {
            z.force(t);
            due("its takes", z.asks(0, 0, 0), sum);
            due("its sounds", z.asks(1, 0, 0), t == 1 ? 1 : 3);
            due("its costs", z.asks(2, 0, 0), t == 1 ? 12 : 45);
        }
    }

    private static void valuesOfTexts() {
        due("pride", says("pride"), 7);
        due("worth", says("worth"), 4);
        due("coins", says("coins"), 5);
        due("purse", says("purse"), 99);
        due("turns", says("turns"), 0);
        due("more", says("more"), 3);
        due("+ * -", says("1 + 2 * 3 - 4"), 3);
        due("- from the left", says("9-3-2"), 4);
        due("( )", says("(1+2)*3"), 9);
        due("- ONE", says("- pride"), -7);
        due("- ONE * ONE", says("2*-3"), -6);
        due("- - ONE", says("5--3"), 8);
        due("<", says("(3<4)+2*(4<4)+4*(5<4)"), 1);
        due("=", says("(3=4)+2*(4=4)+4*(5=4)"), 2);
        due("< of SUMS", says("1+1<1+2"), 1);
        due("not", says("not 0"), 1);
        due("not of a truth", says("not 5"), 0);
        due("not of a comparison", says("not 1 = 2"), 1);
        due("not not", says("not not 7"), 1);
        due("and", says("2 and 4"), 1);
        due("and of 0", says("2 and 0"), 0);
        due("or", says("0 or 8"), 1);
        due("or of 0", says("0 or 0"), 0);
        due("or, and", says("1 or 1 and 0"), 1);
        due("( or ), and", says("(1 or 1) and 0"), 0);
        due("not ahead of and", says("not 1 and 0"), 0);
        due("not ahead of or", says("not 1 or 1"), 1);
        due("wrapping", says("5000*10*5000*10"), -99);
        due("wrapping to 0", says("8192*8192*8192*8192+5"), 5);
        due("- of the least int", says("(-(8192*8192*32))<0"), 1);
        due("0012", says("0012"), 12);
        due("the bound above", says("100"), 99);
        due("the bound below", says("-100"), -99);
        due("a NUMBER and a WORD behind it", says("1and 1"), 1);
    }

    private static void faultsOfTexts() {
        due("nothing", text(new HatGoesRound(), ""), -100);
        due("blanks", text(new HatGoesRound(), "  \n"), -103);
        due("no takes", text(new HatGoesRound(), " sounds 1;"), -101);
        due("an early end", fault("1"), -107);
        due("an early end behind blanks", fault("1 \n"), -109);
        due("no ONE", fault(";"), -106);
        due("two ONES", fault("1 2;"), -108);
        due("a ) too many", fault("1);"), -107);
        due("a ( too many", fault("(1;"), -108);
        due("( )", fault("();"), -107);
        due("two comparisons", fault("1 < 2 < 3;"), -112);
        due("not in a SUM", fault("1 + not 2;"), -110);
        due("not behind -", fault("-not 2;"), -107);
        due("a KEY as a NAME", fault("takes;"), -106);
        due("an unknown WORD", fault("prides;"), -106);
        due("an unknown WORD", fault("bride;"), -106);
        due("an unknown WORD", fault("pridez;"), -106);
        due("an unknown WORD", fault("apride;"), -106);
        due("a WORD as long as can be", fault("notpride;"), -106);
        due("a NUMBER and a NAME", fault("1pride;"), -107);
        due("a NAME and a NUMBER", fault("pride1;"), -111);
        due("four digits", fault("9999"), -110);
        due("five digits", fault("1+00001;"), -108);
        due("a capital", fault("1+Pride;"), -108);
        due("a tab", fault("\t1;"), -106);
        due("byte 0", fault("1\0;"), -107);
        due("byte 233", fault("1\u00e9;"), -107);
        due("/", fault("4/2;"), -107);
        due(">", fault("4>2;"), -107);
        due("sounds ahead", fault("1;costs 1;"), -108);
        due("an empty AND", fault("1 and;"), -111);
        due("bytes behind the end", fault("1;sounds 1;costs 1;;"), -125);
        due("a second TEXT", fault("1;sounds 1;costs 1; takes"), -126);
        due("no last ;", fault("1;sounds 1;costs 1"), -124);
        due("5 (", fault("(((((1)))));"), -118);
        due("6 (", fault("((((((1))))));"), -111);
        due("5 -", fault("-----1;"), -113);
        due("6 -", fault("------1;"), -111);
        due("5 not", fault("not not not not not 1;"), -128);
        due("6 not", fault("not not not not not not 1;"), -126);
        due("a ( in 5 of all", fault("(not((((1)))));"), -113);
        due("a - in 5 of all", fault("(not(-(-1)));"), -113);
        due("a not in 5 of all", fault("((((( not 1)))));"), -112);
        due("closed ones", fault("-1--1--1--1--1--1*-1+(1)+(1)+(1)+(1)+(1)+((((1))));"), -157);
        due("not closed till what it belongs to ends", fault("(((not(1<-1))));"), -115);
        due("- closed, not not", fault("not-1<-1+-1<1;"), -117);
        due("closed nots", fault("not 1 and not 1 and not 1 and not 1 and not 1 and not 1;"), -162);
    }

    private static void force() {
        HatGoesRound x = smallPew();
        text(x, "takes 1;sounds 1;costs 1;");
        due("force(1)", x.force(1), 0);
        due("count(4)", x.count(4), 1);
        due("told(1, 5)", x.told(1, 5), 1);
        due("force(2)", x.force(2), -2);
        due("force(-1)", x.force(-1), -2);
        due("force(0)", x.force(0), 1);
        due("told(1, 5)", x.told(1, 5), 40);
    }

    private static void asks() {
        HatGoesRound x = smallHat();
        x.person(53, 20);
        text(x, "takes worth+100*(more=4);sounds worth*2-more*0;costs worth-pride*turns-200*(purse=99);");
        x.force(1);
        due("asks(0, 0, 5)", x.asks(0, 0, 5), 32);
        due("asks(0, 0, -1)", x.asks(0, 0, -1), 0);
        due("asks(1, 0, 5)", x.asks(1, 0, 5), 64);
        due("asks(1, 0, -1)", x.asks(1, 0, -1), 0);
        due("asks(2, 0, 5)", x.asks(2, 0, 5), 32);
        due("asks(2, 0, -1)", x.asks(2, 0, -1), 0);
        x.pass();
        due("asks(2, 0, 0)", x.asks(2, 0, 0), -19);
        x.put(0, 1, 9999);
        due("asks(2, 0, 0)", x.asks(2, 0, 0), -99);
        x.fill(0, 0, 99);
        due("asks(1, 0, 0)", x.asks(1, 0, 0), 99);
        x.person(4, 0);
        due("asks(0, 1, 0)", x.asks(0, 1, 0), 99);
        text(x, "takes -1;sounds -1;costs 0;");
        x.force(2);
        due("asks(0, 1, 0)", x.asks(0, 1, 0), 0);
        due("asks(1, 1, 0)", x.asks(1, 1, 0), 0);
        due("asks(3, 0, 0)", x.asks(3, 0, 0), -1000);
        due("asks(-1, 0, 0)", x.asks(-1, 0, 0), -1000);
        due("asks(0, 2, 0)", x.asks(0, 2, 0), -1000);
        due("asks(0, -1, 0)", x.asks(0, -1, 0), -1000);
        due("asks(0, 0, 6)", x.asks(0, 0, 6), -1000);
        due("asks(0, 0, -2)", x.asks(0, 0, -2), -1000);
    }

    private static void person() {
        HatGoesRound x = new HatGoesRound();
        due("person(59, 99)", x.person(59, 99), 0);
        due("told(0, 3)", x.told(0, 3), 5);
        due("told(0, 4)", x.told(0, 4), 9);
        due("told(0, 0)", x.told(0, 0), 99);
        due("told(0, 1)", x.told(0, 1), 0);
        due("told(0, 2)", x.told(0, 2), 0);
        due("person(0, 0)", x.person(0, 0), 1);
        due("person(60, 0)", x.person(60, 0), -2);
        due("person(-1, 0)", x.person(-1, 0), -2);
        due("person(0, 100)", x.person(0, 100), -2);
        due("person(0, -1)", x.person(0, -1), -2);
        for (int p = 2; p < 6; p++) {
            due("person(" + p + ")", x.person(10, 5), p);
        }
        due("person(10, 5)", x.person(10, 5), -4);
        due("person(60, 5)", x.person(60, 5), -2);
        due("count(0)", x.count(0), 6);
    }

    private static void put() {
        HatGoesRound x = smallPew();
        due("put(1, 0, 99)", x.put(1, 0, 99), 40);
        due("put(1, 0, 0)", x.put(1, 0, 0), 99);
        due("put(1, 1, 9999)", x.put(1, 1, 9999), 0);
        due("told(1, 0)", x.told(1, 0), 0);
        due("told(1, 1)", x.told(1, 1), 9999);
        due("told(0, 1)", x.told(0, 1), 0);
        due("put(0, 0, 100)", x.put(0, 0, 100), -7);
        due("put(0, 0, -1)", x.put(0, 0, -1), -7);
        due("put(0, 1, 10000)", x.put(0, 1, 10000), -7);
        due("put(0, 1, -1)", x.put(0, 1, -1), -7);
        due("put(0, 2, 0)", x.put(0, 2, 0), -7);
        due("put(0, -1, 0)", x.put(0, -1, 0), -7);
        due("put(2, 2, 0)", x.put(2, 2, 0), -5);
        due("put(-1, 0, 0)", x.put(-1, 0, 0), -5);
        due("told(0, 0)", x.told(0, 0), 10);
    }

    private static void told() {
        HatGoesRound x = fullPew();
        x.hand(1);
        x.pass();
        int[][] all = {
            // PRIDE, PURSE, LOUD, KIND, MORE, TAKES (TURNS is 1), THE COIN
            {0, 0, 0, 0, 0, 0, 0},
            {14, 2, 3, 1, 1, 3, 1},
            {30, 0, 0, 2, 2, 40, 5},
            {45, 0, 0, 3, 3, 11, 3},
            {60, 0, 0, 4, 4, 80, 5},
            {75, 0, 0, 5, 5, 99, 5},
        };
        for (int p = 0; p < 6; p++) {
            for (int what = 0; what <= 6; what++) {
                due("told(" + p + ", " + what + ")", x.told(p, what), all[p][what]);
            }
        }
        due("pass()", x.pass(), 5);
        due("told(3, 5) at even TURNS", x.told(3, 5), 3);
        due("told(3, 6) at even TURNS", x.told(3, 6), 1);
        due("told(0, 7)", x.told(0, 7), -7);
        due("told(0, -1)", x.told(0, -1), -7);
        due("told(6, 7)", x.told(6, 7), -5);
        due("told(-1, 0)", x.told(-1, 0), -5);
        HatGoesRound y = new HatGoesRound();
        y.person(0, 50);
        due("THE COIN of an empty hat", y.told(0, 6), -1);
        y.fill(4, 1, 1);
        y.fill(4, 0, 50);
        y.fill(3, 1, 1);
        y.fill(3, 0, 50);
        y.fill(2, 1, 1);
        due("of like ones the first", y.told(0, 6), 3);
        y.put(0, 0, 49);
        due("WORTH that one TAKES", y.told(0, 6), 2);
        y.put(0, 0, 3);
        due("that of least WORTH", y.told(0, 6), 2);
        y.fill(5, 1, 1);
        y.fill(5, 0, 4);
        due("that of least WORTH, the first", y.told(0, 6), 2);
        y.fill(2, 1, 0);
        due("that of least WORTH IN THE HAT", y.told(0, 6), 5);
        y.fill(0, 1, 1);
        y.fill(0, 0, 9);
        y.put(0, 0, 9);
        due("SORT 0, of most WORTH", y.told(0, 6), 0);
        takesOfNone();
    }

    private static void takesOfNone() {
        HatGoesRound x = fullPew();
        text(x, "takes 7+worth*8;sounds 1;costs 1;");
        x.force(1);
        int[] takes = {7, 1, 17, 3, 27, 99};
        for (int p = 0; p < 6; p++) {
            due("told(" + p + ", 5): WORTH of none is 0", x.told(p, 5), takes[p]);
        }
        x.pass();
        due("told(3, 5)", x.told(3, 5), 1);
    }

    private static void coin() {
        HatGoesRound x = fullPew();
        text(x, "takes 1;sounds worth;costs worth-9;");
        x.force(1);
        int[][] all = {{4, 995}, {5, 995}, {4, 990}, {21, 995}, {0, 986}, {4, 1000}};
        for (int p = 0; p < 6; p++) {
            due("coin(" + p + ", 2, 0)", x.coin(p, 2, 0), all[p][0]);
            due("coin(" + p + ", 2, 1)", x.coin(p, 2, 1), all[p][1]);
        }
        due("coin(4, 5, 1)", x.coin(4, 5, 1), 1042);
        x.fill(5, 0, 99);
        due("coin(3, 5, 0)", x.coin(3, 5, 0), 306);
        due("coin(6, 6, 2)", x.coin(6, 6, 2), -5);
        due("coin(-1, 0, 0)", x.coin(-1, 0, 0), -5);
        due("coin(0, 6, 2)", x.coin(0, 6, 2), -6);
        due("coin(0, -1, 0)", x.coin(0, -1, 0), -6);
        due("coin(0, 0, 2)", x.coin(0, 0, 2), -7);
        due("coin(0, 0, -1)", x.coin(0, 0, -1), -7);
    }

    // ---- turns

    private static void pass() {
        HatGoesRound x = smallPew();
        int[] sorts = {3, 5, 3, 0, 0, 0};
        for (int i = 0; i < sorts.length; i++) {
            due("pass() " + i, x.pass(), sorts[i]);
            due("count(6) " + i, x.count(6), (i + 1) % 2);
            due("count(2) " + i, x.count(2), i + 1);
        }
        due("pass() of an empty hat", x.pass(), -3);
        due("count(2)", x.count(2), 6);
        due("count(6)", x.count(6), 0);
        due("told(0, 0)", x.told(0, 0), 7);
        due("told(0, 1)", x.told(0, 1), 17);
        due("told(0, 2)", x.told(0, 2), 8);
        due("told(1, 0)", x.told(1, 0), 37);
        due("told(1, 1)", x.told(1, 1), 34);
        due("told(1, 2)", x.told(1, 2), 32);
        due("pass() of nobody", smallHat().pass(), -3);
        passAtTheBounds();
        HatGoesRound y = smallHat();
        y.person(0, 50);
        text(y, "takes 50;sounds coins;costs turns*10+coins;");
        y.force(1);
        y.pass();
        due("COSTS told ahead", y.told(0, 0), 44);
        due("SOUNDS told ahead", y.told(0, 2), 6);
        y.pass();
        due("COSTS told ahead", y.told(0, 0), 29);
        due("LOUD stays", y.told(0, 2), 6);
        due("LOUD stays, in thought", y.run(1, 30), 6);
    }

    private static void passAtTheBounds() {
        HatGoesRound x = smallHat();
        x.person(0, 0);
        x.put(0, 1, 9999);
        due("pass()", x.pass(), 0);
        due("PRIDE 0 at least", x.told(0, 0), 0);
        due("PURSE 9999 at most", x.told(0, 1), 9999);
        text(x, "takes 99;sounds 99;costs -99;");
        x.force(1);
        due("pass()", x.pass(), 5);
        due("PRIDE 99 at most", x.told(0, 0), 99);
        due("LOUD", x.told(0, 2), 99);
    }

    private static void hand() {
        HatGoesRound x = smallPew();
        due("hand(1)", x.hand(1), 0);
        due("hand(1)", x.hand(1), 1);
        due("count(6)", x.count(6), 1);
        due("pass()", x.pass(), 5);
        due("count(6)", x.count(6), 0);
        due("hand(2)", x.hand(2), -5);
        due("hand(-1)", x.hand(-1), -5);
        due("hand(0) of nobody", new HatGoesRound().hand(0), -5);
        due("count(6)", x.count(6), 0);
    }

    private static void run() {
        HatGoesRound x = smallPew();
        due("run(0, 0)", x.run(0, 0), 6);
        due("run(2, 0)", x.run(2, 0), 4);
        due("run(2, 1)", x.run(2, 1), 11);
        due("run(3, 2)", x.run(3, 2), 1);
        due("run(120, 2)", x.run(120, 2), 0);
        due("run(120, 0)", x.run(120, 0), 0);
        due("run(3, 10)", x.run(3, 10), 16);
        due("run(3, 11)", x.run(3, 11), 32);
        due("run(3, 20)", x.run(3, 20), 8);
        due("run(120, 21)", x.run(120, 21), 37);
        due("run(120, 30)", x.run(120, 30), 8);
        due("run(120, 31)", x.run(120, 31), 32);
        x.fill(0, 1, 2);
        due("no TURN of an empty hat", x.run(120, 2), 1);
        for (int what : new int[] {-1, 3, 9, 12, 16, 19, 22, 29, 32, 39, 40, 41, MIN, MAX}) {
            due("run(1, " + what + ")", x.run(1, what), -2);
        }
        due("run(-1, 0)", x.run(-1, 0), -2);
        due("run(121, 0)", x.run(121, 0), -2);
        due("run(5, 0) of nobody", smallHat().run(5, 0), 6);
        due("run(5, 10) of nobody", smallHat().run(5, 10), -2);
        due("in thought", x.count(1), 5);
        due("in thought", x.told(0, 1), 0);
        due("run(120, 0) of a full hat", fullPew().run(120, 0), 0);
        due("run(119, 0) of a full hat", fullPew().run(119, 0), 1);
    }

    private static void end() {
        HatGoesRound x = smallPew();
        due("end(0)", x.end(0), 1);
        due("end(1)", x.end(1), 1);
        due("end(2)", x.end(2), 1);
        x.put(0, 1, 17);
        due("end(1) of like ones", x.end(1), 0);
        x.hand(1);
        due("end(0)", x.end(0), 0);
        due("end(3)", x.end(3), -2);
        due("end(-1)", x.end(-1), -2);
        due("in thought", x.count(1), 6);
        HatGoesRound empty = new HatGoesRound();
        due("end(0) of nobody", empty.end(0), -1);
        due("end(1) of nobody", smallHat().end(1), -1);
        due("end(2) of nobody", smallHat().end(2), -1);
        due("end(0) of nobody", smallHat().end(0), -1);
        empty.person(0, 0);
        empty.person(0, 0);
        empty.put(1, 1, 4);
        due("end(0) of an empty hat", empty.end(0), -1);
        due("end(1) of an empty hat", empty.end(1), 1);
        due("end(2) of an empty hat", empty.end(2), 0);
    }

    // ---- what is best

    private static void first() {
        HatGoesRound x = smallPew();
        // 0 first: 8 + 8 + 1; 1 first: 8 + 1 + 1
        due("first(0, 0)", x.first(0, 0), 0);
        due("first(0, 1)", x.first(0, 1), 17);
        // 0 first: 32 + 1 + 1; 1 first: 32 + 8 + 1
        due("first(1, 0)", x.first(1, 0), 1);
        due("first(1, 1)", x.first(1, 1), 41);
        due("first(2, 0)", x.first(2, 0), -5);
        due("first(-1, 5)", x.first(-1, 5), -5);
        due("first(0, 2)", x.first(0, 2), -7);
        due("first(0, -1)", x.first(0, -1), -7);
        due("in thought", x.count(6), 0);
        due("of six", fullPew().first(5, 1) > 0 ? 1 : 0, 1);
        HatGoesRound empty = new HatGoesRound();
        empty.person(0, 0);
        empty.person(0, 0);
        empty.put(1, 1, 12);
        due("of like ones the first", empty.first(1, 0), 0);
        due("first(1, 1) of an empty hat", empty.first(1, 1), 12);
    }

    private static void vicar() {
        HatGoesRound x = smallPew();
        due("vicar(0, 0)", x.vicar(0, 0), 0);
        due("vicar(0, 1)", x.vicar(0, 1), 1);
        due("vicar(1, 0)", x.vicar(1, 0), -1);
        due("vicar(1, 1)", x.vicar(1, 1), -1);
        x.fill(0, 1, 20);
        due("the first with room", x.vicar(1, 0), 1);
        due("who would have the hat", x.vicar(1, 1), 0);
        due("none", x.vicar(0, 0), -1);
        x.hand(1);
        due("from who has the hat on", x.vicar(1, 0), -1);
        due("from who has the hat on", x.vicar(0, 1), 1);
        due("vicar(2, 2)", x.vicar(2, 2), -5);
        due("vicar(-1, 0)", x.vicar(-1, 0), -5);
        due("vicar(0, 2)", x.vicar(0, 2), -7);
        due("vicar(0, -1)", x.vicar(0, -1), -7);
        due("in thought", x.count(1), 23);
        HatGoesRound full = fullPew();
        due("no room at all", full.vicar(0, 0), -1);
        full.fill(4, 1, 19);
        due("room for one", full.vicar(5, 0), 4);
        due("room for one", full.vicar(5, 1), 0);
    }

    private static void seating() {
        HatGoesRound x = smallHat();
        due("seating(0) of nobody", x.seating(0), 0);
        due("seating(1) of nobody", x.seating(1), 0);
        due("seating(2) of nobody", x.seating(2), -2);
        due("seating(-1)", x.seating(-1), -2);
        x.person(0, 40);
        due("seating(0) of one", x.seating(0), 1);
        due("seating(1) of one", x.seating(1), 0);
        x.person(0, 10);
        // 12: 32, 8, 8, 1, 1, 1 to 41 and 10; 21: 8, 32, 8, 1, 1, 1 to 17 and 34
        due("seating(0)", x.seating(0), 21);
        due("seating(1)", x.seating(1), 17);
        x.hand(1);
        due("the TURN does not matter", x.seating(0), 21);
        HatGoesRound three = new HatGoesRound();
        three.fill(0, 1, 2);
        three.person(0, 5);
        three.person(0, 5);
        three.person(0, 5);
        three.put(0, 1, 1);
        // all who take 1 reach it, if 0 is last
        due("seating(0) of three", three.seating(0), 231);
        due("seating(1) of three", three.seating(1), 0);
        three.fill(0, 1, 0);
        three.put(0, 1, 9999);
        due("9999", three.seating(1), 9999);
        due("9999", three.seating(0), 123);
        seatingOfMoreRounds();
        HatGoesRound full = fullPew();
        for (int w = 0; w < 6; w++) {
            full.fill(w, 0, 1);
        }
        full.put(5, 1, 3);
        due("seating(1) of six, 20 of 120 coins each", full.seating(1), 3);
        due("seating(0) of six, 20 of 120 coins each", full.seating(0), 123456);
        HatGoesRound six = new HatGoesRound();
        for (int p = 0; p < 6; p++) {
            six.person(0, 9);
            six.put(p, 1, p);
        }
        due("seating(0) of an empty hat", six.seating(0), 123456);
        due("seating(1) of an empty hat", six.seating(1), 5);
        for (int w = 0; w < 5; w++) {
            six.fill(w, 1, 1);
            six.fill(w, 0, w + 1);
        }
        // WORTH 5 .. 1 are taken in turn and make up for PURSES 0 .. 5
        due("seating(0) of six", six.seating(0), 123456);
        due("seating(1) of six", six.seating(1), 0);
        HatGoesRound other = new HatGoesRound();
        for (int p = 0; p < 6; p++) {
            other.person(0, 9);
            other.put(p, 1, 5 - p);
        }
        for (int w = 0; w < 5; w++) {
            other.fill(w, 1, 1);
            other.fill(w, 0, w + 1);
        }
        due("the last of all orders", other.seating(0), 654321);
        due("the last of all orders", other.seating(1), 0);
    }

    /** Each order of four CHILDREN made the only one by which all have the same, of coins of WORTH 6, 5, .. 1. */
    private static void seatingOfMoreRounds() {
        for (int many = 0; many < 24; many++) {
            HatGoesRound x = new HatGoesRound();
            int[] order = {0, 1, 2, 3};
            for (int i = 0, rest = many, way = 6; i < 3; way /= 3 - i, i++) {
                int k = i + rest / way;
                rest %= way;
                int one = order[k];
                System.arraycopy(order, i, order, i + 1, k - i);
                order[i] = one;
            }
            // by that order they take 6 and 2, 5 and 1, 4, 3
            int[] sums = {8, 6, 4, 3};
            int digits = 0;
            for (int i = 0; i < 4; i++) {
                digits = digits * 10 + order[i] + 1;
            }
            for (int p = 0; p < 4; p++) {
                x.person(50, 0);
            }
            for (int i = 0; i < 4; i++) {
                x.put(order[i], 1, 23 - sums[i]);
            }
            for (int w = 0; w < 6; w++) {
                x.fill(w, 0, w + 1);
                x.fill(w, 1, 1);
            }
            due("seating(0) of four, " + digits, x.seating(0), digits);
            due("seating(1) of four, " + digits, x.seating(1), 0);
            x.put(order[3], 1, 23 - sums[3] + 1);
            due("by how much", x.seating(1), 1);
        }
    }

    private static void ways() {
        HatGoesRound x = new HatGoesRound();
        due("ways(0) of an empty hat", x.ways(0), 1);
        due("ways(1) of an empty hat", x.ways(1), 0);
        x.fill(0, 1, 4);
        x.fill(1, 1, 2);
        // 4: 4 of 1; 2 of 1 and a 2; two 2
        due("ways(4)", x.ways(4), 3);
        due("ways(8)", x.ways(8), 1);
        due("ways(9)", x.ways(9), 0);
        x.fill(2, 0, 1);
        x.fill(2, 1, 1);
        due("another SORT of WORTH 1", x.ways(4), 5);
        x.fill(3, 0, 0);
        x.fill(3, 1, 2);
        due("a SORT of WORTH 0", x.ways(4), 15);
        due("ways(999)", x.ways(999), 0);
        due("ways(1000)", x.ways(1000), -2);
        due("ways(-1)", x.ways(-1), -2);
        HatGoesRound full = fullPew();
        for (int w = 0; w < 6; w++) {
            full.fill(w, 0, 0);
        }
        due("all of WORTH 0", full.ways(0), 85766121);
        due("all of WORTH 0", full.ways(1), 0);
        full.fill(5, 0, 99);
        due("ten of 99 and all of WORTH 0", full.ways(990), 4084101);
        due("ways(999)", full.ways(999), 0);
    }

    private static void share() {
        HatGoesRound x = smallPew();
        x.put(0, 1, 9);
        x.put(1, 1, 12);
        // 9 of 9 + 12 + 51
        due("share(0, 0)", x.share(0, 0), 1);
        due("share(0, 1)", x.share(0, 1), 8);
        due("share(1, 0)", x.share(1, 0), 1);
        due("share(1, 1)", x.share(1, 1), 6);
        x.put(1, 1, 10);
        due("share(1, 0)", x.share(1, 0), 1);
        due("share(1, 1)", x.share(1, 1), 7);
        x.put(1, 1, 0);
        due("share(1, 0)", x.share(1, 0), 0);
        due("share(1, 1)", x.share(1, 1), 1);
        due("share(0, 0)", x.share(0, 0), 3);
        due("share(0, 1)", x.share(0, 1), 20);
        due("share(2, 0)", x.share(2, 0), NO);
        due("share(-1, 0)", x.share(-1, 0), NO);
        due("share(0, 2)", x.share(0, 2), NO);
        due("share(0, -1)", x.share(0, -1), NO);
        HatGoesRound six = fullPew();
        six.put(5, 1, 1260);
        due("share(5, 0) of six", six.share(5, 0), 1);
        due("share(5, 1) of six", six.share(5, 1), 2);
        HatGoesRound empty = new HatGoesRound();
        empty.person(0, 0);
        due("that is 0", empty.share(0, 0), NO);
        due("that is 0", empty.share(0, 1), NO);
        empty.put(0, 1, 7);
        due("all", empty.share(0, 0), 1);
        due("all", empty.share(0, 1), 1);
    }

    // ---- told rounds

    private static void refusals(String call, int sheet5, int missing, int long31) {
        due(call + " of SHEET 4 or -1", sheet5, -2);
        due(call + " of a SHEET that is missing", missing, -11);
        due(call + " of a SHEET of 31", long31, -2);
    }

    private static void judge() {
        HatGoesRound x = smallPew();
        tell(x, 0, 4, 6, 4, 1, 1, 1, 0, 0);
        due("judge(0)", x.judge(0), -1);
        tell(x, 0, 4, 6, 4, 1, 1, 1, 1);
        due("judge(0) of more than are there", x.judge(0), 6);
        tell(x, 0, 4, 6, 1);
        due("judge(0)", x.judge(0), 2);
        tell(x, 0, 0);
        due("judge(0)", x.judge(0), 0);
        tell(x, 0);
        due("judge(0) of nothing", x.judge(0), -1);
        x.sheet(1, 2, 1);
        x.cell(1, 0, 4);
        due("judge(1) of ints", x.judge(1), -1);
        x.cell(1, 0, 4 + 256);
        due("judge(1) of ints", x.judge(1), 0);
        x.sheet(1, 1, 1);
        x.cell(1, 0, 4 + 65536);
        due("judge(1) of shorts", x.judge(1), -1);
        x.sheet(1, 0, 31);
        refusals("judge", x.judge(4), x.judge(2), x.judge(1));
        due("judge(-1)", x.judge(-1), -2);
        x.sheet(1, 0, 30);
        due("judge(1) of 30", x.judge(1), 0);
        HatGoesRound nobody = smallHat();
        tell(nobody, 3, 0, 0, 0);
        due("judge(3) of nobody", nobody.judge(3), -1);
        due("in thought", x.count(1), 6);
    }

    private static void kinds() {
        HatGoesRound x = smallPew();
        tell(x, 0, 4);
        // PERSON 10: 8; RICH 2: least 1; POOR 10: 8; STIRRING 0: 1; WIDOW 10: 8; CHILD: 32
        due("kinds(0, 0, 0)", x.kinds(0, 0, 0), 0b010101);
        due("kinds(0, 0, 1)", x.kinds(0, 0, 1), 0b1111111111);
        HatGoesRound y = smallHat();
        y.person(24, 3);
        tell(y, 0, 4);
        // POOR of PRIDE 3: 3 + 5 times MORE from 8 up to 31
        due("MORE of a POOR", y.kinds(0, 0, 1), 0b0000111110);
        due("kinds(0, 0, 0)", y.kinds(0, 0, 0), 0b010100);
        tell(y, 0, 2);
        due("none", y.kinds(0, 0, 0), 0);
        due("none", y.kinds(0, 0, 1), 0);
        due("told(0, 3)", y.told(0, 3), 2);
        due("told(0, 4)", y.told(0, 4), 4);
        y.sheet(1, 0, 31);
        refusals("kinds", y.kinds(-1, 9, 9), y.kinds(2, 9, 9), y.kinds(1, 9, 9));
        due("kinds(0, 1, 2)", y.kinds(0, 1, 2), -5);
        due("kinds(0, -1, 0)", y.kinds(0, -1, 0), -5);
        due("kinds(0, 0, 2)", y.kinds(0, 0, 2), -7);
        due("kinds(0, 0, -1)", y.kinds(0, 0, -1), -7);
    }

    private static void prides() {
        HatGoesRound x = smallPew();
        tell(x, 0, 4);
        due("prides(0, 0, 0)", x.prides(0, 0, 0), 24);
        due("prides(0, 0, 1)", x.prides(0, 0, 1), 8);
        tell(x, 0, 6);
        due("prides(0, 0, 0) up to 99", x.prides(0, 0, 0), 68);
        due("prides(0, 0, 1)", x.prides(0, 0, 1), 32);
        tell(x, 0, 1);
        due("prides(0, 0, 0) from 0 on", x.prides(0, 0, 0), 8);
        due("prides(0, 0, 1)", x.prides(0, 0, 1), 0);
        tell(x, 0, 3);
        due("none", x.prides(0, 0, 0), 0);
        due("none", x.prides(0, 0, 1), -1);
        due("told(0, 0)", x.told(0, 0), 10);
        x.sheet(1, 0, 31);
        refusals("prides", x.prides(4, 9, 9), x.prides(2, 9, 9), x.prides(1, 9, 9));
        due("prides(0, 2, 2)", x.prides(0, 2, 2), -5);
        due("prides(0, -1, 0)", x.prides(0, -1, 0), -5);
        due("prides(0, 0, 2)", x.prides(0, 0, 2), -7);
        due("prides(0, 0, -1)", x.prides(0, 0, -1), -7);
    }

    private static void hats() {
        HatGoesRound x = smallPew();
        tell(x, 0, 4, 6, 4, 1, 1, 1);
        due("hats(0, 0, 0)", x.hats(0, 0, 0), 18);
        due("hats(0, 0, 1)", x.hats(0, 0, 1), 3);
        due("hats(0, 3, 0)", x.hats(0, 3, 0), 1);
        due("hats(0, 3, 1)", x.hats(0, 3, 1), 2);
        tell(x, 0, 4, 6, 4, 1, 1, 1, 0);
        due("hats(0, 0, 0)", x.hats(0, 0, 0), 1);
        tell(x, 0, 3);
        due("none", x.hats(0, 3, 0), 0);
        due("none", x.hats(0, 3, 1), -1);
        tell(x, 0, 1);
        due("hats(0, 3, 0) of 0", x.hats(0, 3, 0), 1);
        due("hats(0, 3, 1) of 0", x.hats(0, 3, 1), 0);
        due("hat(3, 1)", x.hat(3, 1), 2);
        x.sheet(1, 0, 31);
        refusals("hats", x.hats(4, 9, 9), x.hats(2, 9, 9), x.hats(1, 9, 9));
        due("hats(0, 6, 2)", x.hats(0, 6, 2), -5);
        due("hats(0, -1, 0)", x.hats(0, -1, 0), -5);
        due("hats(0, 0, 2)", x.hats(0, 0, 2), -7);
        due("hats(0, 0, -1)", x.hats(0, 0, -1), -7);
    }

    private static void starts() {
        HatGoesRound x = smallPew();
        x.person(0, 11);
        tell(x, 0, 4);
        due("starts(0)", x.starts(0), 0b101);
        tell(x, 0, 4, 6);
        due("starts(0)", x.starts(0), 0b001);
        tell(x, 0, 4, 4, 6);
        due("starts(0)", x.starts(0), 0b100);
        tell(x, 0, 2);
        due("starts(0)", x.starts(0), 0);
        due("count(6)", x.count(6), 0);
        x.sheet(1, 0, 31);
        refusals("starts", x.starts(-1), x.starts(2), x.starts(1));
        HatGoesRound nobody = smallHat();
        tell(nobody, 3, 0);
        due("starts(3) of nobody", nobody.starts(3), 0);
    }

    private static void laws() {
        HatGoesRound x = smallPew();
        text(x, "takes 9;sounds 0;costs 0;");
        text(x, "takes 99;sounds 0;costs 0;");
        text(x, "takes worth;sounds 0;costs 0;");
        tell(x, 0, 4);
        due("laws(0)", x.laws(0), 0b0011);
        tell(x, 0, 6);
        due("laws(0)", x.laws(0), 0b0100);
        tell(x, 0, 1);
        due("laws(0): takes none", x.laws(0), 0b1000);
        tell(x, 0, 2);
        due("laws(0)", x.laws(0), 0);
        due("count(4)", x.count(4), 0);
        x.sheet(1, 0, 31);
        refusals("laws", x.laws(4), x.laws(2), x.laws(1));
    }

    private static void film() {
        HatGoesRound x = smallPew();
        due("film(0, 8)", x.film(0, 8), 8);
        due("judge(0)", x.judge(0), -1);
        tell(x, 1, 4, 6, 4, 1, 1, 1, 0, 0);
        due("judge(1)", x.judge(1), -1);
        due("in thought", x.count(1), 6);
        due("of bytes", x.copy(1, 0, 0, 0, 8), 8);
        due("so many", x.copy(1, 0, 0, 1, 8), -12);
        x.sheet(2, 2, 40);
        due("film(2, 30)", x.film(2, 30), 30);
        due("judge(2)", x.judge(2), -1);
        due("film(2, 0)", x.film(2, 0), 0);
        due("judge(2)", x.judge(2), -1);
        due("film(2, 31)", x.film(2, 31), -7);
        due("film(2, -1)", x.film(2, -1), -7);
        due("film(4, 31)", x.film(4, 31), -2);
        due("film(-1, 0)", x.film(-1, 0), -2);
        HatGoesRound y = smallHat();
        y.film(0, 3);
        y.person(0, 0);
        y.person(0, 32);
        due("film of nobody: none", y.judge(0), 0);
        y.film(0, 3);
        y.hand(1);
        due("whoever has the hat now", y.judge(0), 0);
        y.film(0, 3);
        tell(y, 1, 6, 1, 4);
        due("judge(1)", y.judge(1), -1);
        due("judge(0)", y.judge(0), -1);
    }

    // ---- hats by lots

    private static void drawn() {
        HatGoesRound x = new HatGoesRound();
        due("drawn(7, 20, 0) of nobody", x.drawn(7, 20, 0), 0);
        due("drawn(7, 20, 1) of nobody", x.drawn(7, 20, 1), -1);
        x.person(0, 99);
        // LOTS of 0: 48271 (SORT 1), 182605794 (SORT 0), 1291394886 (SORT 0)
        due("drawn(0, 1, 0)", x.drawn(0, 1, 0), 2);
        due("drawn(0, 2, 0)", x.drawn(0, 2, 0), 3);
        due("drawn(0, 3, 0)", x.drawn(0, 3, 0), 4);
        due("drawn(0, 0, 0)", x.drawn(0, 0, 0), 0);
        due("drawn(0, 0, 1): none was taken", x.drawn(0, 0, 1), -1);
        due("drawn(0, 1, 1)", x.drawn(0, 1, 1), 0);
        // LOTS of 1: 96542 (SORT 2)
        due("drawn(1, 1, 0)", x.drawn(1, 1, 0), 4);
        x.fill(2, 1, 20);
        due("20 at most", x.drawn(1, 1, 0), 80);
        x.put(0, 1, 7);
        due("and what was in the PURSE", x.drawn(1, 1, 0), 87);
        x.person(0, 99);
        x.hand(1);
        due("from who has the hat on", x.drawn(0, 1, 1), 1);
        due("in thought", x.count(1), 20);
        due("drawn(99999, 30, 1)", x.drawn(99999, 30, 1) >= 0 ? 1 : 0, 1);
        due("drawn(100000, 0, 0)", x.drawn(100000, 0, 0), -2);
        due("drawn(-1, 0, 0)", x.drawn(-1, 0, 0), -2);
        due("drawn(0, 31, 0)", x.drawn(0, 31, 0), -2);
        due("drawn(0, -1, 0)", x.drawn(0, -1, 0), -2);
        due("drawn(0, 0, 2)", x.drawn(0, 0, 2), -2);
        due("drawn(0, 0, -1)", x.drawn(0, 0, -1), -2);
    }

    private static void odds() {
        HatGoesRound x = new HatGoesRound();
        x.person(0, 99);
        x.person(0, 99);
        due("10 coins end with 1", x.odds(5, 20, 1, 0), 1);
        due("10 coins end with 1", x.odds(5, 20, 1, 1), 1);
        due("10 coins end with 1", x.odds(5, 20, 0, 0), 0);
        due("10 coins end with 1", x.odds(5, 20, 0, 1), 1);
        // of SORT 0 there are 20: the number of coins is odd by the seeds that tell an odd number of others
        x.fill(0, 1, 20);
        int odd = 0;
        for (int seed = 99990; seed < 100030; seed++) {
            long lot = seed + 1;
            int others = 0;
            for (int i = 0; i < 10; i++) {
                lot = lot * 48271 % 2147483647L;
                others += lot % 6 == 0 ? 0 : 1;
            }
            odd += others % 2;
        }
        int common = 1;
        for (int i = 1; i <= 40; i++) {
            common = odd % i == 0 && 40 % i == 0 ? i : common;
        }
        due("odds(99990, 40, 0, 0)", x.odds(99990, 40, 0, 0), odd / common);
        due("odds(99990, 40, 0, 1)", x.odds(99990, 40, 0, 1), 40 / common);
        due("in thought", x.count(1), 20);
        due("odds(0, 1, 1, 0)", x.odds(0, 1, 1, 0) + x.odds(0, 1, 0, 0), 1);
        due("odds(99999, 1, 1, 1)", x.odds(99999, 1, 1, 1), 1);
        due("odds(100000, ..)", x.odds(100000, 1, 0, 0), NO);
        due("odds(-1, ..)", x.odds(-1, 1, 0, 0), NO);
        due("odds(.., 0, ..)", x.odds(0, 0, 0, 0), NO);
        due("odds(.., 41, ..)", x.odds(0, 41, 0, 0), NO);
        due("odds(.., p 2, ..)", x.odds(0, 1, 2, 0), NO);
        due("odds(.., p -1, ..)", x.odds(0, 1, -1, 0), NO);
        due("odds(.., part 2)", x.odds(0, 1, 0, 2), NO);
        due("odds(.., part -1)", x.odds(0, 1, 0, -1), NO);
    }

    private static void image() {
        HatGoesRound x = smallPew();
        due("image()", x.image(), 2);
        x.person(0, 0);
        due("image()", x.image(), 3);
        x.person(0, 0);
        due("the later one counts", x.back(), 3);
        due("image() of nobody", new HatGoesRound().image(), 0);
        HatGoesRound y = new HatGoesRound();
        y.image();
        due("back() to nobody", y.back(), 0);
    }

    private static void back() {
        HatGoesRound x = smallPew();
        due("back() without an image", x.back(), -3);
        text(x, "takes 1;sounds 1;costs 1;");
        x.force(1);
        x.hand(1);
        x.pass();
        x.fill(4, 0, 77);
        x.put(0, 1, 123);
        x.image();
        text(x, "takes 2;sounds 1;costs 1;");
        x.force(2);
        x.person(11, 1);
        x.hand(2);
        x.pass();
        x.pass();
        x.fill(4, 0, 3);
        x.fill(2, 1, 9);
        x.put(1, 0, 5);
        x.put(0, 1, 6);
        feed(x, "ab");
        tell(x, 1, 4);
        due("back()", x.back(), 2);
        int[] counts = {2, 5, 1, 3, 1, 2, 0};
        for (int what = 0; what < counts.length; what++) {
            due("count(" + what + ")", x.count(what), counts[what]);
        }
        due("hat(4, 0)", x.hat(4, 0), 77);
        due("hat(2, 1)", x.hat(2, 1), 0);
        due("told(0, 0)", x.told(0, 0), 10);
        due("told(0, 1)", x.told(0, 1), 123);
        due("told(1, 0)", x.told(1, 0), 39);
        due("told(1, 1)", x.told(1, 1), 1);
        due("told(1, 2)", x.told(1, 2), 1);
        due("told(2, 0)", x.told(2, 0), -5);
        due("SHEETS stay", x.judge(1), 0);
        due("another comes new", x.person(5, 50), 2);
        due("told(2, 1)", x.told(2, 1), 0);
        due("told(2, 2)", x.told(2, 2), 0);
        due("told(2, 4)", x.told(2, 4), 5);
        x.pass();
        due("back() again", x.back(), 2);
        due("count(1)", x.count(1), 5);
    }

    // ---- the host

    private static void sheet() {
        HatGoesRound x = new HatGoesRound();
        due("sheet(3, 2, 40)", x.sheet(3, 2, 40), 1);
        due("cell(3, 39)", x.cell(3, 39, 1), 1);
        due("sheet(3, 0, 0)", x.sheet(3, 0, 0), 1);
        due("cell(3, 0)", x.cell(3, 0, 1), -12);
        due("sheet(3, 1, 2)", x.sheet(3, 1, 2), 1);
        x.cell(3, 0, 5);
        due("judge(3)", x.judge(3), 0);
        due("sheet(3, 1, 2)", x.sheet(3, 1, 2), 1);
        due("all 0", x.judge(3), -1);
        due("sheet(4, 0, 1)", x.sheet(4, 0, 1), -2);
        due("sheet(-1, 0, -1)", x.sheet(-1, 0, -1), -2);
        due("sheet(3, 3, 1)", x.sheet(3, 3, 1), -2);
        due("sheet(3, -2, 1)", x.sheet(3, -2, 1), -2);
        due("sheet(3, 3, -1)", x.sheet(3, 3, -1), -2);
        due("sheet(3, 0, 41)", x.sheet(3, 0, 41), -2);
        due("sheet(3, 0, -1)", x.sheet(3, 0, -1), -14);
        due("sheet(3, 0, MIN)", x.sheet(3, 0, MIN), -14);
        due("cell(3, 1): as it was", x.cell(3, 1, 1), 1);
        due("sheet(3, -1, 41)", x.sheet(3, -1, 41), 1);
        due("cell(3, 0)", x.cell(3, 0, 1), -11);
        due("sheet(3, -1, -1)", x.sheet(3, -1, -1), 1);
    }

    private static void cell() {
        HatGoesRound x = smallPew();
        x.sheet(0, 0, 1);
        due("cell(0, 0, 4)", x.cell(0, 0, 4), 1);
        due("judge(0)", x.judge(0), -1);
        due("cell(0, 0, 260)", x.cell(0, 0, 260), 1);
        due("its lowest 8 bits", x.judge(0), -1);
        due("cell(0, 0, 5)", x.cell(0, 0, 5), 1);
        due("judge(0)", x.judge(0), 0);
        x.sheet(0, 1, 1);
        x.cell(0, 0, 260);
        due("260 as a short", x.judge(0), 0);
        x.cell(0, 0, 4 - 65536);
        due("its lowest 16 bits", x.judge(0), -1);
        x.sheet(0, 2, 2);
        x.cell(0, 0, 4 - 65536);
        due("an int", x.judge(0), 0);
        x.cell(0, 0, 4);
        x.cell(0, 1, 6);
        due("number 1", x.judge(0), -1);
        due("cell(4, 0, 0)", x.cell(4, 0, 0), -2);
        due("cell(-1, 9, 0)", x.cell(-1, 9, 0), -2);
        due("cell(1, -1, 0)", x.cell(1, -1, 0), -11);
        due("cell(0, 2, 0)", x.cell(0, 2, 0), -12);
        due("cell(0, -1, 0)", x.cell(0, -1, 0), -12);
        due("cell(0, MAX, 0)", x.cell(0, MAX, 0), -12);
    }

    private static void copy() {
        HatGoesRound x = smallPew();
        tell(x, 0, 9, 4, 6, 4);
        tell(x, 1, 7, 7, 7, 7, 7);
        due("copy(0, 1, 1, 0, 3)", x.copy(0, 1, 1, 0, 3), 3);
        due("judge(1)", x.judge(1), 3);
        tell(x, 2, 4, 6, 4, 1);
        due("onto itself, from behind", x.copy(2, 0, 2, 1, 3), 3);
        due("onto itself, to the front", x.copy(2, 1, 2, 0, 3), 3);
        due("as they were", x.judge(2), 3);
        tell(x, 2, 9, 4, 6);
        due("onto itself, to the front", x.copy(2, 1, 2, 0, 2), 2);
        due("as they were", x.judge(2), 2);
        due("none at the end", x.copy(0, 4, 1, 5, 0), 0);
        due("none behind the end", x.copy(0, 5, 1, 5, 0), -12);
        due("too many here", x.copy(0, 1, 1, 0, 4), -12);
        due("too many there", x.copy(0, 0, 1, 2, 4), -12);
        due("n below 0", x.copy(0, 1, 1, 1, -1), -12);
        due("i below 0", x.copy(0, -1, 1, 0, 1), -12);
        due("j below 0", x.copy(0, 0, 1, -1, 1), -12);
        due("far off", x.copy(0, MAX, 1, 0, 1), -12);
        due("far off", x.copy(0, 1, 1, MAX, MAX), -12);
        due("far off", x.copy(0, MIN, 1, MIN, MIN), -12);
        due("judge(1) as it was", x.judge(1), 3);
        x.sheet(3, 1, 5);
        due("unlike sorts", x.copy(0, -1, 3, 0, 1), -13);
        x.sheet(3, -1, 0);
        due("missing there", x.copy(0, -1, 3, 0, 1), -11);
        due("missing here", x.copy(3, -1, 0, 0, 1), -11);
        due("copy(4, ..)", x.copy(4, 0, 3, 0, 1), -2);
        due("copy(.., 4, ..)", x.copy(3, 0, 4, 0, 1), -2);
        due("copy(.., -1, ..)", x.copy(3, 0, -1, 0, 1), -2);
    }

    private static void pewBy() {
        HatGoesRound x = new HatGoesRound();
        tell(x, 0, 9, 47, 99, 59, 100, 12, 34, 60, 1);
        due("pewBy(0, 0, 1, 4)", x.pewBy(0, 0, 1, 4), 2);
        due("count(0)", x.count(0), 2);
        due("told(0, 3)", x.told(0, 3), 4);
        due("told(0, 4)", x.told(0, 4), 7);
        due("told(0, 0)", x.told(0, 0), 99);
        due("told(1, 3)", x.told(1, 3), 1);
        due("told(1, 0)", x.told(1, 0), 34);
        due("none of them", x.pewBy(0, 0, 1, 0), 0);
        due("none of them, far off", x.pewBy(0, 0, -7, 0), 0);
        due("half of one", x.pewBy(0, 0, 0, 5), -12);
        due("what stood ahead came", x.count(0), 4);
        due("told(2, 0)", x.told(2, 0), 47);
        due("told(3, 0)", x.told(3, 0), 60);
        due("the last byte", x.pewBy(0, 0, 8, 1), -12);
        due("pewBy(.., -1, 1)", x.pewBy(0, 0, -1, 1), -12);
        due("pewBy(.., MAX, 1)", x.pewBy(0, 0, MAX, 1), -12);
        due("pewBy(.., MAX - 1, 2)", x.pewBy(0, 0, MAX - 1, 2), -12);
        due("pewBy(.., MIN, 2)", x.pewBy(0, 0, MIN, 2), -12);
        due("count(0)", x.count(0), 4);
        x.sheet(1, 1, 12);
        due("others are left out", x.pewBy(1, 1, 0, 6), 2);
        due("count(0)", x.count(0), 6);
        x.sheet(3, 2, 2);
        due("of ints", x.pewBy(3, 2, 0, 1), 0);
        due("pewBy(0, 1, ..)", x.pewBy(0, 1, -1, 1), -13);
        due("pewBy(2, ..)", x.pewBy(2, 1, -1, 1), -11);
        due("pewBy(2, .., 7)", x.pewBy(2, 1, -1, 7), -2);
        due("pewBy(0, .., -1)", x.pewBy(0, 0, 0, -1), -2);
        due("pewBy(4, ..)", x.pewBy(4, 0, 0, 1), -2);
        due("pewBy(-1, ..)", x.pewBy(-1, 0, 0, 1), -2);
        due("pewBy(0, 3, ..)", x.pewBy(0, 3, 0, 1), -2);
        due("pewBy(2, -1, ..)", x.pewBy(2, -1, 0, 1), -2);
    }

    private static void taken() {
        HatGoesRound x = fullPew();
        int[] isOne = {0b000001, 0b000011, 0b000101, 0b001011, 0b010101, 0b100001};
        for (int i = 0; i < 6; i++) {
            for (int kind = 0; kind <= 6; kind++) {
                due("taken(" + i + ", " + kind + ")", x.taken(i, kind), (isOne[i] >> kind & 1) == 1 ? i : -13);
            }
        }
        x.fill(3, 1, 7);
        for (int kind = 0; kind <= 6; kind++) {
            due("taken(9, " + kind + ")", x.taken(9, kind), kind == 6 ? 7 : -13);
        }
        due("taken(6, 6)", x.taken(6, 6), 20);
        due("taken(11, 6)", x.taken(11, 6), 20);
        due("taken(12, 7)", x.taken(12, 7), -2);
        due("taken(0, -1)", x.taken(0, -1), -2);
        due("taken(12, 6)", x.taken(12, 6), -12);
        due("taken(-1, 0)", x.taken(-1, 0), -12);
        HatGoesRound nobody = new HatGoesRound();
        due("taken(0, 0) of nobody", nobody.taken(0, 0), -11);
        due("taken(5, 6) of nobody", nobody.taken(5, 6), -11);
        due("taken(6, 6) of an empty hat", nobody.taken(6, 6), 0);
    }

    private static void all(int number) {
        promise = number;
        switch (number) {
            case 1: aNewObject(); break;
            case 2: count(); break;
            case 3: fill(); break;
            case 4: hat(); break;
            case 5: feed(); break;
            case 6: text(); break;
            case 7: force(); break;
            case 8: asks(); break;
            case 9: person(); break;
            case 10: put(); break;
            case 11: told(); break;
            case 12: coin(); break;
            case 13: pass(); break;
            case 14: hand(); break;
            case 15: run(); break;
            case 16: end(); break;
            case 17: first(); break;
            case 18: vicar(); break;
            case 19: seating(); break;
            case 20: ways(); break;
            case 21: share(); break;
            case 22: judge(); break;
            case 23: kinds(); break;
            case 24: prides(); break;
            case 25: hats(); break;
            case 26: starts(); break;
            case 27: laws(); break;
            case 28: film(); break;
            case 29: drawn(); break;
            case 30: odds(); break;
            case 31: image(); break;
            case 32: back(); break;
            case 33: sheet(); break;
            case 34: cell(); break;
            case 35: copy(); break;
            case 36: pewBy(); break;
            default: taken(); break;
        }
    }

    public static void main(String[] args) {
        for (int number = 1; number <= 37; number++) {
            all(number);
        }
        System.out.println("PromiseTests: promises 1 to 37, " + asked + " answers, " + wrong + " not as due");
        if (wrong != 0) {
            System.exit(1);
        }
    }
}
