/** The edges that "Terms" II names, sentence by sentence: the tape, the tokens, sums and tests, laws, orders. */
public final class EdgesOfTextsTest {
    private static final String TWO = "Terms II";
    private static final String LAWS = "Terms II, LAWS";
    private static final String ORDERS = "Terms II, ORDERS";

    private EdgesOfTextsTest() {
    }

    private static void due(String call, long got, long want) {
        Edges.due(call, got, want);
    }

    private static String many(String what, String between, int times) {
        StringBuilder all = new StringBuilder();
        for (int i = 0; i < times; i++) {
            all.append(i == 0 ? "" : between).append(what);
        }
        return all.toString();
    }

    /** The text is a law. */
    private static void law(String text) {
        ThreeWheels x = new ThreeWheels();
        due("law " + text, Check.law(x, text), 0);
        due("fault of " + text, x.fault(), -1);
        due("laws with " + text, x.count(3), 1);
    }

    /** The text is no law: the fault is there. */
    private static void law(String text, int fault) {
        ThreeWheels x = new ThreeWheels();
        due("law " + text, Check.law(x, text), -6);
        due("fault of " + text, x.fault(), fault);
        due("laws with " + text, x.count(3), 0);
    }

    /** The text is orders, whatever becomes of them. */
    private static void orders(String text) {
        ThreeWheels x = new ThreeWheels();
        due("orders " + text, Check.orders(x, text) == -6 ? 1 : 0, 0);
        due("fault of " + text, x.fault(), -1);
    }

    private static void orders(String text, int fault) {
        ThreeWheels x = new ThreeWheels();
        due("orders " + text, Check.orders(x, text), -6);
        due("fault of " + text, x.fault(), fault);
        due("stopped of " + text, x.stopped(), -1);
    }

    /** Both languages: the text stands behind an "if". */
    private static void test(String text) {
        law("bans if " + text);
        orders("ride if " + text);
    }

    private static void test(String text, int fault) {
        law("bans if " + text, 8 + fault);
        orders("ride if " + text, 8 + fault);
    }

    /** What a "holds" tells of a bend, by at(): 0 .. 99,999. */
    private static int told(String sum) {
        ThreeWheels x = Edges.under("holds " + sum);
        x.bend(-9, 99, 3, 0);
        return x.at(0, 4);
    }

    private static final int SO = 77;
    private static final int NOT_SO = 600;

    private static void isSo(String test, int want) {
        ThreeWheels x = Edges.under("holds 77 if " + test);
        x.bend(-9, 99, 3, 0);
        due("\"if\" " + test, x.at(0, 4), want);
        ThreeWheels y = new ThreeWheels();
        due("orders' \"if\" " + test, Check.orders(y, "gas 1 if " + test), want == SO ? 1 : 0);
    }

    // ---- tape and tokens ----

    private static void tapeAndTokens() {
        Edges.says(TWO, "II. TEXTS are on a TAPE of at most 400 bytes.");
        law("fears 7" + many(" ", "", 387) + "if 1=1");
        orders("gas 7" + many(" ", "", 389) + "if 1=1");
        law("bans if " + many("not ", "", 97) + "1=1 ");
        law("bans if " + many("not ", "", 98), 400);
        law("fears 7" + many(" ", "", 392) + "7", 399);
        law(many(" ", "", 400), 400);
        orders(many(" ", "", 400), 400);
        Edges.says(TWO, "TOKENS: longest rows of letters a .. z, of digits, single other bytes, any blanks (32) between.");
        law("holds1");
        law("holds 1if 1=1");
        law("holds 0001");
        law("holds[1]if(1=1)");
        law("   holds   1   ;   bans   ");
        law(";bans", 0);
        law("holdsif 1=1", 0);
        law("bansa", 0);
        law("bansz", 0);
        law("bans a", 5);
        law("holds 10z", 8);
        law("ho lds 1", 0);
        law("holds 1 0", 8);
        law("holds turnlong", 6);
        law("holds turn long", 11);
        law("bans if1=1");
        law("bans ifturn=1", 5);
        law("bans if 1=1or 1=1");
        law("bans if 1=1 or1=1");
        law("bans if turn=1orturn=1", 14);
        orders("gas 1times 2");
        orders("gas turn1");
        orders("gas turn1times2if1=1");
        orders("gas 1 ti mes 2", 6);
        law("HOLDS 1", 0);
        law("holdS 1", 0);
        for (int b : new int[] {0, 9, 10, 31, 33, 47 - 11, 58, 64, 65, 90, 94, 95, 96, 123, 127, 128, 160, 255}) {
            law("bans" + (char) b, 4);
            law((char) b + "bans", 0);
            law("holds 1" + (char) b, 7);
            orders("gas " + (char) b + "1", 4);
        }
        law("holds 1++2", 8);
        law("bans if 1==1", 10);
        law("bans if 1<=1", 10);
        law("holds 1--1", 8);
    }

    private static void clauses() {
        Edges.says(TWO, "Of both languages: CLAUSE {\";\" CLAUSE}, 12 at most (FAULT at the 13th's first TOKEN).");
        law("bans");
        law("bans;holds 1");
        law(many("bans", ";", 12));
        law(many("bans", ";", 13), 60);
        law(many("bans", ";", 14), 60);
        law(many("bans", ";", 12) + " ;   bans", 64);
        law(many("bans", ";", 12) + ";", 60);
        law(many("bans", ";", 12) + ";  ", 62);
        law(many("bans", ";", 12) + "; ?", 61);
        law(many("bans", ";", 12) + " ?", 60);
        orders(many("ride", ";", 12));
        orders(many("ride", ";", 13), 60);
        orders(many("ride", ";", 12) + ";", 60);
        law("bans;", 5);
        law("bans; ;bans", 6);
        law(";", 0);
        orders("ride;;ride", 5);
        ThreeWheels x = new ThreeWheels();
        due("all twelve run", Check.orders(x, many("gas 1", ";", 12)), 12);
        ThreeWheels y = Edges.under(many("bans if spot=9", ";", 11) + ";bans if spot=3");
        due("the twelfth is asked", y.load(1, 3, 1), -3);
        due("on that spot alone", y.load(1, 2, 1), 0);
    }

    private static void tests() {
        Edges.says(TWO, "TEST: BOTH {\"or\" BOTH}.");
        test("1=1 or 1=1");
        test("1=1 or 1=1 or 1=1 and 1=1 or 1=1");
        test("1=1 or", 6);
        test("1=1 or or", 7);
        test("or 1=1", 0);
        isSo("1=2 or 1=1", SO);
        isSo("1=1 or 1=2", SO);
        isSo("1=2 or 1=2", NOT_SO);
        isSo("1=2 or 1=2 or 1=1", SO);
        Edges.says(TWO, "BOTH: PLAIN {\"and\" PLAIN}.");
        test("1=1 and 1=1 and 1=1");
        test("1=1 and", 7);
        test("1=1 and or 1=1", 8);
        test("1=1 not 1=1", 4);
        isSo("1=1 and 1=1", SO);
        isSo("1=1 and 1=2", NOT_SO);
        isSo("1=2 and 1=1", NOT_SO);
        isSo("1=1 and 1=1 and 1=2", NOT_SO);
        isSo("1=1 or 1=1 and 1=2", SO);
        isSo("1=2 and 1=2 or 1=1", SO);
    }

    private static void plains() {
        Edges.says(TWO, "PLAIN: \"not\" PLAIN | \"(\" TEST \")\" | SUM (\"<\" | \">\" | \"=\") SUM.");
        test("not 1=1");
        test("not not not (not 1=1)");
        test("not", 3);
        test("not and 1=1", 4);
        test("(1=1)");
        test("(1=1 or 1=1 and not 1=1)");
        test("(1=1", 4);
        test("(1=1]", 4);
        test("()", 1);
        test("(1)", 2);
        test("(1=1)=1", 5);
        test("[1=1]", 2);
        test("1=1)", 3);
        test("1", 1);
        test("1=", 2);
        test("=1", 0);
        test("1<1>1", 3);
        test("1!1", 1);
        test("1=(1)", 2);
        isSo("1<2", SO);
        isSo("2<2", NOT_SO);
        isSo("3<2", NOT_SO);
        isSo("3>2", SO);
        isSo("2>2", NOT_SO);
        isSo("1>2", NOT_SO);
        isSo("2=2", SO);
        isSo("2=3", NOT_SO);
        isSo("not 1=2", SO);
        isSo("not not 1=2", NOT_SO);
        isSo("not 1=2 and 1=2", NOT_SO);
        isSo("not (1=2 and 1=2)", SO);
        isSo("not 1=1 or 1=1", SO);
        isSo("not (1=1 or 1=1)", NOT_SO);
        isSo("not (not 1=1)", SO);
        isSo("not (not 1=2)", NOT_SO);
        for (String so : new String[] {"1<2", "2>1", "2=2", "not 1=2"}) {
            isSo("not " + so, NOT_SO);
            isSo(so + " and 1=1", SO);
            isSo(so + " or 1=2", SO);
            isSo(so + " and 1=2", NOT_SO);
        }
        for (String not : new String[] {"2<1", "2<2", "1>2", "2>2", "1=2", "not 1=1"}) {
            isSo("not " + not, SO);
            isSo(not + " and 1=1", NOT_SO);
            isSo(not + " or 1=2", NOT_SO);
            isSo(not + " or 1=1", SO);
        }
        isSo("(1=1 or 1=1) and 1=2", NOT_SO);
    }

    private static void sums() {
        Edges.says(TWO, "SUM: TERM {(\"+\" | \"-\") TERM}.");
        law("holds 1+2-3+4");
        law("holds 1+", 8);
        law("holds -1", 6);
        law("holds 1+-1", 8);
        due("from the left", told("10-3-2"), 5);
        due("from the left", told("10-3+2"), 9);
        due("terms first", told("10-2*3"), 4);
        due("terms first", told("2*3+10/4"), 8);
        Edges.says(TWO, "TERM: PART {(\"*\" | \"/\" | \"%\") PART}.");
        law("holds 1*2/3%4");
        law("holds 1*", 8);
        law("holds *1", 6);
        law("holds 1/%2", 8);
        due("from the left", told("100/10/5"), 2);
        due("from the left", told("100/10*5"), 50);
        due("from the left", told("17%10%4"), 3);
        due("from the left", told("3*7%5"), 1);
        Edges.says(TWO, "PART: NUMBER (to 1,000) | \"[\" SUM \"]\" | a word, as told.");
        due("the greatest", told("1000"), 1000);
        due("0 at first", told("0000000000000000000000001000"), 1000);
        due("0", told("0"), 0);
        law("holds 1001", 6);
        law("holds 10000", 6);
        law("holds 01001", 6);
        law("holds 1 + 99999999999999999999999", 10);
        law("holds 4294967297", 6);
        law("holds 18446744073709551617", 6);
        orders("gas 1000");
        orders("gas 1001", 4);
        due("brackets first", told("[10-2]*3"), 24);
        due("brackets first", told("10-[3-2]"), 9);
        due("brackets first", told("100/[10/5]"), 50);
        law("holds []", 7);
        law("holds [1", 8);
        law("holds [1)", 8);
        law("holds 1]", 7);
        law("holds (1)", 6);
        law("holds pace", 6);
        orders("gas long", 4);
        law("holds if", 6);
        law("holds holds", 6);
    }

    private static void mostParts() {
        Edges.says(TWO, "50 PARTS that are NUMBERS and words (FAULT at the 51st),");
        law("holds " + many("1", "+", 50));
        law("holds " + many("1", "+", 51), 106);
        law("holds " + many("1", "+", 52), 106);
        law("holds " + many("turn", "+", 50));
        law("holds " + many("turn", "+", 51), 256);
        law("holds " + many("[1]", "+", 50));
        law("holds " + many("[1]", "+", 51), 207);
        law("holds " + many("1", "+", 50) + "+[1]", 107);
        law("holds " + many("1", "+", 50) + "+[", 107);
        law("holds " + many("1", "+", 50) + "+?", 106);
        law("holds " + many("1", "+", 48) + " if 1=turn");
        law("holds " + many("1", "+", 49) + " if 1=turn", 109);
        law("holds " + many("1", "+", 25) + ";holds " + many("1", "+", 25));
        law("holds " + many("1", "+", 25) + ";holds " + many("1", "+", 26), 112);
        law("holds " + many("1", "+", 50) + ";bans");
        orders("gas " + many("1", "+", 50));
        orders("gas " + many("1", "+", 51), 104);
        orders("put " + many("1", "+", 25) + " at " + many("1", "+", 25));
        orders("put " + many("1", "+", 25) + " at " + many("1", "+", 26), 107);
    }

    private static void brackets() {
        Edges.says(TWO, "8 brackets of both kinds within one another (FAULT at the 9th) at most.");
        law("holds " + many("[", "", 8) + "1" + many("]", "", 8));
        law("holds " + many("[", "", 9) + "1" + many("]", "", 9), 14);
        law("holds " + many("[", "", 9), 14);
        law("holds " + many("[1]", "+", 9));
        law("holds " + many("[", "", 8) + "1" + many("]", "", 8) + "+" + many("[", "", 8) + "1" + many("]", "", 8));
        law("holds [[1]+[1]+[[1]+[[[[[1]+[[1]]]]]]]]");
        law("holds [[1]+[1]+[[1]+[[[[[1]+[[[1]]]]]]]]]", 30);
        test(many("(", "", 8) + "1=1" + many(")", "", 8));
        test(many("(", "", 9) + "1=1" + many(")", "", 9), 8);
        test(many("(", "", 4) + many("[", "", 4) + "1" + many("]", "", 4) + "=1" + many(")", "", 4));
        test(many("(", "", 4) + many("[", "", 5) + "1" + many("]", "", 5) + "=1" + many(")", "", 4), 8);
        test(many("(", "", 8) + "[1]=1", 8);
        test(many("(", "", 8) + "1=[1]", 10);
        test("(1=1) and " + many("(", "", 8) + "1=1" + many(")", "", 8));
        test(many("not (", "", 8) + "1=1" + many(")", "", 8));
        String eight = many("[", "", 8) + "1" + many("]", "", 8);
        orders("put " + eight + " at " + eight);
        orders("put " + eight + " at [" + eight + "]", 4 + 17 + 4 + 8);
        orders("lean [" + eight + "] by " + eight, 5 + 8);
        orders("lean " + eight + " by [" + eight + "]", 5 + 17 + 4 + 8);
        test(many("not (", "", 9) + "1=1" + many(")", "", 9), 44);
    }

    private static void faults() {
        Edges.says(TWO, "FAULT: the first TOKEN that can't go on there (the end's: the TEXT's length).");
        law("", 0);
        law(" ", 1);
        law("holds", 5);
        law("holds   ", 8);
        law("holds 1 +  ", 11);
        law("bans if", 7);
        law("bans if 1=1 and ", 16);
        law("holds 1 bans", 8);
        law("holds ? + ?", 6);
        law("holds 1; x; y", 9);
        law("holds 1001 + ?", 6);
        orders("", 0);
        orders("gas ", 4);
        orders("put 1 at ", 9);
    }

    private static void broken() {
        Edges.says(TWO, "Beyond 1,000,000,000 either way, or divided by 0 (/ cut towards 0, % what is left then), a SUM, a TEST is BROKEN");
        String most = "1000*1000*1000";
        due("the greatest", told(most + "/1000/1000"), 1000);
        isSo(most + "=" + most, SO);
        isSo(most + "+1>0", NOT_SO);
        isSo(most + "+1-1>0", NOT_SO);
        isSo("1+" + most + ">0", NOT_SO);
        isSo(most + "-0=" + most, SO);
        isSo("0-" + most + "<0", SO);
        isSo("0-" + most + "-1<0", NOT_SO);
        isSo("[0-" + most + "]*1<0", SO);
        isSo("[0-" + most + "]/1-1+1<0", NOT_SO);
        isSo("1000*1000*[1000+1]>0", NOT_SO);
        isSo("1000*1000*[1000-1]+1000*1000>0", SO);
        isSo("1000*1000*[0-1000]<0", SO);
        isSo("1000*1000*[0-1000-1]<0", NOT_SO);
        isSo(most + "*" + most + ">0", NOT_SO);
        isSo(most + "*" + most + "/" + most + ">0", NOT_SO);
        isSo(most + "*2-" + most + ">0", NOT_SO);
        isSo("0*[" + most + "*2]=0", NOT_SO);
        isSo("0<" + most + "*2", NOT_SO);
        isSo("not " + most + "*2<0", NOT_SO);
        isSo("1/0=0", NOT_SO);
        isSo("not 1/0=0", NOT_SO);
        isSo("0/0=0", NOT_SO);
        isSo("1%0=0", NOT_SO);
        isSo("0%0=0", NOT_SO);
        isSo("1=1/[1-1]", NOT_SO);
        isSo("0/1=0", SO);
        isSo("0%1=0", SO);
        isSo("7/2=3", SO);
        isSo("[0-7]/2=0-3", SO);
        isSo("7/[0-2]=0-3", SO);
        isSo("[0-7]/[0-2]=3", SO);
        isSo("1/2=0", SO);
        isSo("[0-1]/2=0", SO);
        isSo("7%2=1", SO);
        isSo("[0-7]%2=0-1", SO);
        isSo("7%[0-2]=1", SO);
        isSo("[0-7]%[0-2]=0-1", SO);
        isSo("8%2=0", SO);
        ThreeWheels x = Edges.under("holds 5; holds 1000*1000*1000+1; holds 0-1000*1000*1000-1; holds 1/0; holds 1%[1-1]");
        x.bend(1, 1, 0, 0);
        due("a broken sum", x.at(0, 4), 5);
    }

    private static void askedOrNot() {
        Edges.says(TWO, "(\"or\", \"and\" ask what stands behind only if it can still matter; a part that was asked and is BROKEN makes all of it BROKEN).");
        isSo("1=1 or 1/0=1", SO);
        isSo("1=2 or 1/0=1", NOT_SO);
        isSo("1/0=1 or 1=1", NOT_SO);
        isSo("1=1 or 1/0=1 or 1/0=1", SO);
        isSo("1=2 or 1=1 or 1/0=1", SO);
        isSo("1=2 or 1/0=1 or 1=1", NOT_SO);
        isSo("1=2 and 1/0=1 or 1=1", SO);
        isSo("1=1 and 1/0=1 or 1=1", NOT_SO);
        isSo("not (1=2 and 1/0=1)", SO);
        isSo("not (1=1 and 1/0=1)", NOT_SO);
        isSo("not (1=2 or 1/0=1)", NOT_SO);
        isSo("1=1 or 1=2 and 1/0=1", SO);
        isSo("1=2 or 1=2 and 1/0=1", NOT_SO);
        isSo("not (1=2 or 1=2 and 1/0=1)", SO);
        isSo("1=2 and 1/0=1 and 1/0=1 or 1=1", SO);
        isSo("1=1 and (1=1 or 1/0=1)", SO);
        isSo("(1=1 or 1/0=1) and (1=2 or 1=1)", SO);
        isSo("not not (1=1 or 1/0=1)", SO);
        isSo("1=2 and (1/0=1 or 1=1) or not (1=2 and 1/0=1)", SO);
    }

    // ---- laws ----

    private static void laws() {
        Edges.says(LAWS, "LAWS, 6 at most;");
        ThreeWheels six = new ThreeWheels();
        for (int i = 0; i < 6; i++) {
            due("law", Check.law(six, "holds " + i), i);
        }
        due("a seventh", Check.law(six, "holds 6"), -5);
        due("six", six.count(3), 6);
        due("the sixth", six.force(5), -1);
        due("no seventh", six.force(6), -2);
        Edges.says(LAWS, "one is in FORCE (NONE at first: no CLAUSE):");
        ThreeWheels x = new ThreeWheels();
        x.bend(1, 1, 0, 0);
        Check.law(x, "holds 7; bans");
        due("none at first", x.count(11), -1);
        due("no clause", x.at(0, 4), 600);
        due("none is barred", x.load(0, 0, 0), 0);
        x.force(0);
        due("in force", x.at(0, 4), 7);
        due("barred", x.load(0, 0, 0), -3);
        x.force(-1);
        due("no clause", x.at(0, 4), 600);
        Edges.says(LAWS, "CLAUSE: ((\"holds\" | \"grips\" | \"fears\" | \"pulls\" | \"learns\") SUM | \"bans\") [\"if\" TEST].");
        for (String word : new String[] {"holds", "grips", "fears", "pulls", "learns"}) {
            law(word + " 1");
            law(word + " 1 if 1=1");
            law(word, word.length());
            law(word + " if 1=1", word.length() + 1);
            law(word + " 1 times 2", word.length() + 3);
            law(word + "s 1", 0);
        }
        law("bans");
        law("bans if 1=1");
        law("bans 1", 5);
        law("bans if 1=1 if 1=1", 12);
        for (String word : new String[] {"gas 1", "brake 1", "lane 1", "put 1 at 1", "lean 1 by 1", "ride", "if 1=1", "1"}) {
            law(word, 0);
        }
        Edges.says(LAWS, "Words: \"turn\" | \"long\" | \"camber\" | \"chair\" | \"rest\" | \"lean\" | \"bars\" | \"skill\" | \"weight\" | \"spot\" | \"alive\" | \"mood\".");
        for (String word : new String[] {"turn", "long", "camber", "chair", "rest", "lean", "bars", "skill", "weight", "spot", "alive", "mood"}) {
            law("holds " + word);
            law("bans if " + word + "=" + word);
            law("holds " + word + word, 6);
        }
        for (String word : new String[] {"pace", "next", "side", "done", "ended", "hedges", "holes", "tur", "turns", "at", "by", "times"}) {
            law("holds " + word, 6);
        }
        law("holds turn 1", 11);
        law("holds spot 1", 11);
    }

    private static void wordsOfLaws() {
        Edges.says(LAWS, "\"holds\", \"grips\", \"fears\", \"pulls\", \"learns\" are asked of a BEND (weight, spot, alive -1; chair: WEIGHTS in the chair and "
            + "its nose together, rest: all others; lean: LEANS times WEIGHTS of ALIVE ones together),");
        String[] words = {"turn", "long", "camber", "chair", "rest", "lean", "bars", "skill", "mood", "weight", "spot", "alive"};
        int[] values = {-9, 99, 3, 200 + 7, 100 + 30, 200 * 2 - 100, -9, 3, 9, -1, -1, -1};
        String[] asked = {"holds 1000+", "grips 1000+", "fears 30-", "pulls ", "learns 50+"};
        int[] fine = {1, 1, 0, 0, 0};
        for (int w = 0; w < words.length; w++) {
            for (int a = 0; a < asked.length; a++) {
                ThreeWheels x = loaded();
                boolean far = fine[a] == 0 && Math.abs(values[w]) > 20;
                Edges.force(x, asked[a] + (far ? "[" + words[w] + "]/20" : words[w]));
                int value = far ? values[w] / 20 : values[w];
                due(asked[a] + words[w], x.at(0, 4 + a), a == 2 ? 30 - value : new int[] {1000, 1000, 0, 0, 50}[a] + value);
            }
        }
        Edges.says(LAWS, "\"bans\" of a LOAD on a SPOT (turn, long, camber, chair, rest, lean -1);");
        for (int i = 0; i < 6; i++) {
            ThreeWheels x = loaded();
            Edges.force(x, "bans if " + words[i] + " + 1 = 0");
            due(words[i], x.of(1, 5), 1);
            due(words[i], x.load(1, 1, 1), -3);
        }
        ThreeWheels spots = loaded();
        Edges.force(spots, "bans if weight * 10 + spot = 1000 + 1000 + 3; bans if alive = 0 and spot = 0; bans if weight = 0");
        int[][] barred = {{0, 0, 0, 1}, {0, 0, 0, 0}, {1, 0, 0, 0}};
        for (int load = 0; load < 3; load++) {
            for (int spot = 0; spot < 4; spot++) {
                due("load " + load + " on spot " + spot, spots.of(load, 4 + spot), barred[load][spot]);
            }
        }
        due("one of 0", spots.load(0, 1, 1), -3);
        due("one of 1", spots.load(1, 1, 1), 4);
        Edges.says(LAWS, "bars, skill, mood always.");
        ThreeWheels always = loaded();
        Edges.force(always, "bans if bars + 9 = 0 and skill = 3 and mood = 9");
        due("all three", always.of(0, 4), 1);
        always.bars(-8);
        due("other bars", always.of(0, 4), 0);
        always.bars(-9);
        always.terms(2, 8);
        due("another mood", always.of(0, 4), 0);
        always.terms(2, 9);
        due("all three", always.load(0, 0, 1), -3);
        always.undo();
        due("other skill", always.of(0, 4), 0);
        asTheyAreNow();
    }

    /** Each call that asks a law asks it of what is now, whatever was asked ahead of the latest change. */
    private static void asTheyAreNow() {
        Edges.Call[] asked = {x -> x.at(0, 4), x -> x.goes(0, 10), x -> x.quick(0, 0), x -> x.soonest(0), x -> x.leaning(0, 0), x -> x.putting(-1),
            x -> x.setting(1), ThreeWheels::learning, x -> x.aboard(-1), x -> x.days(30, 1), x -> x.of(0, 4), EdgesOfTextsTest::stopAndPut,
            ThreeWheels::ride, x -> x.load(1, 0, 0)};
        int[][] wants = {{0, 1, 0, -1, 0, -1, 100, 5, 0, 0, 1, -3, 1, -3}, {100, 0, 10, 10, 10, 60, 110, 2, 2, 1, 0, 2, 0, 1}};
        for (int i = 0; i < asked.length; i++) {
            for (int mood = 0; mood < 2; mood++) {
                ThreeWheels x = moody();
                x.terms(2, 1 - mood);
                x.at(0, 4);
                x.terms(2, mood);
                due("call " + i + " with mood " + mood, asked[i].on(x), wants[mood][i]);
            }
        }
    }

    private static ThreeWheels moody() {
        ThreeWheels x = Edges.under("bans if mood = 0 and spot < 2; holds 100*mood; fears 10+mood; learns 20+mood*30; pulls 10+mood");
        x.load(10, 2, 1);
        x.bend(-1, 10, 0, 0);
        x.sight(0, 10, 1);
        x.gas(10);
        return x;
    }

    private static int stopAndPut(ThreeWheels x) {
        x.brake(10);
        return x.put(0, 0);
    }

    /** One bend with the greatest numbers; an alive load in the chair, one behind, others on the nose and the saddle that are not. */
    private static ThreeWheels loaded() {
        ThreeWheels x = Edges.under("learns 3");
        x.bend(-9, 99, 3, 31);
        x.load(200, 2, 1);
        x.load(100, 1, 1);
        x.load(7, 3, 0);
        x.load(30, 0, 0);
        x.bars(-9);
        x.terms(2, 9);
        x.lean(0, 2);
        x.lean(1, -1);
        x.gas(1);
        x.ride();
        return x;
    }

    private static void lastThatHolds() {
        Edges.says(LAWS, "A CLAUSE HOLDS, if its \"if\" (if it has one) is so, and neither that nor its SUM is BROKEN.");
        due("without", told("7"), 7);
        due("so", told("7 if 1=1"), 7);
        due("not so", told("7 if 1=2"), 600);
        due("broken", told("7 if 1/0=1"), 600);
        due("broken", told("7 if not 1/0=1"), 600);
        due("its sum is broken", told("7/0"), 600);
        due("its sum is broken", told("7/0 if 1=1"), 600);
        ThreeWheels bans = Edges.under("bans if 1/0=1; bans if spot=3; bans if 1=2");
        due("a broken one bars nothing", bans.load(1, 2, 1), 0);
        due("one of three", bans.load(1, 3, 1), -3);
        Edges.says(LAWS, "A BEND HOLDS what the last \"holds\" that HOLDS tells, 0 .. 99,999 (else the nearest), without 600 and 20 for each of CHAIR, "
            + "and LEAN (0 at least);");
        due("the last", told("1; holds 2; holds 3"), 3);
        due("the last that holds", told("1; holds 2; holds 3 if 1=2; holds 4/0"), 2);
        due("not another's", told("1; grips 2"), 1);
        due("99,999", told("1000*100-1"), 99999);
        due("100,000", told("1000*100"), 99999);
        due("1,000,000,000", told("1000*1000*1000"), 99999);
        due("0", told("0"), 0);
        due("-1", told("0-1"), 0);
        due("-1,000,000,000", told("0-1000*1000*1000"), 0);
        int[][] holds = {{0, 0, 600}, {1, 0, 620}, {200, 0, 4600}, {0, 2, 1000}, {0, -2, 200}};
        for (int[] h : holds) {
            ThreeWheels x = Edges.under("grips 1");
            x.load(h[0], 3, 0);
            x.load(200, 0, 1);
            x.lean(1, h[1]);
            x.bend(1, 1, 0, 0);
            due("chair " + h[0] + ", lean " + h[1], x.at(0, 4), h[2]);
        }
        due("0 at least", leaned(0, -2, 200, 100).at(0, 4), 0);
        due("1", leaned(0, -1, 200, 200, 199).at(0, 4), 1);
        due("0", leaned(0, -1, 200, 200, 200).at(0, 4), 0);
        due("not -1", leaned(0, -1, 200, 200, 200, 1).at(0, 4), 0);
        due("the greatest", leaned(2, 2, 200, 200, 200, 200, 200, 200).at(0, 4), 600 + 24000 + 2400);
    }

    /** A bend, and loads of those weights that all lean like that on that spot. */
    private static ThreeWheels leaned(int spot, int lean, int... weights) {
        ThreeWheels x = new ThreeWheels();
        x.bend(1, 9, -3, 0);
        for (int w : weights) {
            x.lean(x.load(w, spot, 1), lean);
        }
        return x;
    }

    private static int told(String law, int what) {
        ThreeWheels x = Edges.under(law);
        x.bend(1, 9, -3, 0);
        return x.at(0, what);
    }

    private static void otherClauses() {
        Edges.says(LAWS, "GRIPS 0 .. 99,999, without 2,000 and 10 for each of REST, less LEAN (0 at least);");
        due("99,999", told("grips 1000*100-1", 5), 99999);
        due("100,000", told("grips 1000*100", 5), 99999);
        due("0", told("grips 0", 5), 0);
        due("-1", told("grips 0-1", 5), 0);
        due("without", told("holds 1", 5), 2000);
        due("rest", leaned(1, 0, 200, 1).at(0, 5), 2000 + 2010);
        due("lean", leaned(2, 1, 200, 1).at(0, 5), 2000 - 201);
        due("lean", leaned(2, -1, 200, 1).at(0, 5), 2000 + 201);
        due("0", leaned(3, 2, 200, 200, 200, 200, 200).at(0, 5), 0);
        due("1", leaned(3, 1, 200, 200, 200, 200, 200, 200).at(0, 5), 800);
        due("0 at least", leaned(3, 2, 200, 200, 200, 200, 200, 1).at(0, 5), 0);
        due("0 at least", leaned(3, 2, 200, 200, 200, 200, 200, 200).at(0, 5), 0);
        due("2", leaned(3, 2, 200, 200, 200, 200, 199).at(0, 5), 2);
        due("the greatest", leaned(0, -2, 200, 200, 200, 200, 200, 200).at(0, 5), 2000 + 12000 + 2400);
    }

    private static void fearsPullsLearns() {
        Edges.says(LAWS, "is FEARED above a PACE 0 .. 60, 60 without;");
        due("60", told("fears 60", 6), 60);
        due("61", told("fears 61", 6), 60);
        due("1,000", told("fears 1000", 6), 60);
        due("59", told("fears 59", 6), 59);
        due("0", told("fears 0", 6), 0);
        due("-1", told("fears 0-1", 6), 0);
        due("without", told("grips 1", 6), 60);
        due("the last that holds", told("fears 9; fears 8; fears 7 if 1=2; fears 6/0", 6), 8);
        Edges.says(LAWS, "PULLS by -99 .. 99, without by CAMBER times 5 and CHAIR by 20 (cut), less BARS;");
        due("99", told("pulls 99", 7), 99);
        due("100", told("pulls 100", 7), 99);
        due("-99", told("pulls 0-99", 7), -99);
        due("-100", told("pulls 0-100", 7), -99);
        due("-1", told("pulls 0-1", 7), -1);
        due("camber", told("grips 1", 7), -15);
        int[][] chairs = {{0, -15}, {19, -15}, {20, -14}, {39, -14}, {40, -13}, {200, -5}};
        for (int[] c : chairs) {
            ThreeWheels x = leaned(2, 0, c[0]);
            due("chair " + c[0], x.at(0, 7), c[1]);
            x.bars(9);
            due("chair " + c[0] + ", bars 9", x.at(0, 7), c[1] - 9);
            x.bars(-9);
            due("chair " + c[0] + ", bars -9", x.at(0, 7), c[1] + 9);
        }
        due("the last that holds", told("pulls 9; pulls 8; pulls 7 if 1=2; pulls 6/0", 7), 8);
        Edges.says(LAWS, "one LEARNS by 0 .. 100, LONG by 10 (cut) without;");
        due("100", told("learns 100", 8), 100);
        due("101", told("learns 101", 8), 100);
        due("0", told("learns 0", 8), 0);
        due("-1", told("learns 0-1", 8), 0);
        due("without", told("grips 1", 8), 0);
        int[][] longs = {{1, 0}, {9, 0}, {10, 1}, {19, 1}, {20, 2}, {99, 9}};
        for (int[] l : longs) {
            ThreeWheels x = new ThreeWheels();
            x.bend(0, l[0], 0, 0);
            due("long " + l[0], x.at(0, 8), l[1]);
        }
        due("the last that holds", told("learns 9; learns 8; learns 7 if 1=2; learns 6/0", 8), 8);
    }

    private static void barred() {
        Edges.says(LAWS, "a LOAD is BARRED there, if \"bans\" HOLDS.");
        ThreeWheels x = Edges.under("bans if spot = 2; bans if spot = 1 and 1 = 2; bans if spot = 0 and weight > 9");
        int[][] loads = {{10, 0, -3}, {9, 0, 0}, {10, 1, 1}, {0, 2, -3}, {10, 3, 2}};
        for (int[] l : loads) {
            due("load on " + l[1], x.load(l[0], l[1], 1), l[2]);
        }
        due("put on 2", x.put(1, 2), -3);
        due("put on 0", x.put(1, 0), -3);
        due("put on 3", x.put(1, 3), 1);
        due("told", x.of(1, 6), 1);
        due("told", x.of(1, 7), 0);
    }

    // ---- orders ----

    private static void clausesOfOrders() {
        Edges.says(ORDERS, "ORDERS: CLAUSE: (\"gas\" SUM | \"brake\" SUM | \"lane\" SUM | \"put\" SUM \"at\" SUM | \"lean\" SUM \"by\" SUM | \"ride\") "
            + "[\"times\" TIMES] [\"if\" TEST].");
        for (String clause : new String[] {"gas 1", "brake 1", "lane 1", "put 1 at 1", "lean 1 by 1", "ride"}) {
            int length = clause.length();
            orders(clause);
            orders(clause + " times 2");
            orders(clause + " if 1=1");
            orders(clause + " times 2 if 1=1");
            orders(clause + " if 1=1 times 2", length + 8);
            orders(clause + " times 2 times 2", length + 9);
            orders(clause + " if 1=1 if 1=1", length + 8);
            orders(clause + " 1", length + 1);
            orders(clause + " times", length + 6);
            orders(clause + " if", length + 3);
        }
        orders("gas", 3);
        orders("brake", 5);
        orders("lane times 2", 5);
        orders("put", 3);
        orders("put 1", 5);
        orders("put 1 by 1", 6);
        orders("put 1 1", 6);
        orders("lean 1 1", 7);
        orders("put 1 at", 8);
        orders("put at 1", 4);
        orders("lean 1", 6);
        orders("lean 1 at 1", 7);
        orders("lean 1 by", 9);
        orders("gass 1", 0);
        for (String clause : new String[] {"holds 1", "grips 1", "fears 1", "pulls 1", "learns 1", "bans", "if 1=1", "times 2"}) {
            orders(clause, 0);
        }
    }

    private static void loadsAndTimes() {
        Edges.says(ORDERS, "(a LOAD, a SPOT; a LOAD, LEAN.)");
        ThreeWheels x = new ThreeWheels();
        x.load(5, 3, 1);
        x.load(5, 0, 1);
        x.load(5, 0, 1);
        due("put 2 at 1", Check.orders(x, "put 2 at 1"), 1);
        due("its spot", x.of(2, 1), 1);
        due("not the other's", x.of(1, 1), 0);
        due("lean 1 by 2", Check.orders(x, "lean 1 by 2"), 1);
        due("its lean", x.of(1, 3), 2);
        due("not the other's", x.of(2, 3), 0);
        due("put 0 at 0", Check.orders(x, "put 0 at 0; lean 0 by 0-2"), 2);
        due("its spot", x.of(0, 1), 0);
        due("its lean", x.of(0, 3), -2);
        Edges.says(ORDERS, "TIMES: a NUMBER 1 .. 20.");
        ThreeWheels y = new ThreeWheels();
        due("1", Check.orders(y, "gas 1 times 1"), 1);
        due("20", Check.orders(y, "gas 1 times 20"), 20);
        due("020", Check.orders(y, "gas 1 times 020"), 20);
        due("pace", y.count(13), 41);
        orders("gas 1 times 0", 12);
        orders("gas 1 times 21", 12);
        orders("gas 1 times 200", 12);
        orders("gas 1 times 4294967297", 12);
        orders("gas 1 times pace", 12);
        orders("gas 1 times [1]", 12);
        orders("gas 1 times 1+1", 13);
    }

    private static void wordsThatOrdersHave() {
        Edges.says(ORDERS, "Words: \"pace\" | \"next\" | \"side\" | \"done\" | \"ended\" | \"hedges\" | \"turn\" B | \"spot\" L (B: a NUMBER 0 .. 11, L: 0 .. 5).");
        for (String word : new String[] {"pace", "next", "side", "done", "ended", "hedges", "turn 0", "turn 11", "turn 011", "spot 0", "spot 5"}) {
            orders("gas " + word);
            orders("ride if " + word + "=" + word);
        }
        for (String word : new String[] {"long", "camber", "chair", "rest", "lean", "bars", "skill", "weight", "alive", "mood", "at", "pac", "paces"}) {
            orders("gas " + word, 4);
        }
        orders("gas turn", 8);
        orders("gas turn 12", 9);
        orders("gas turn 1000", 9);
        orders("gas turn -1", 9);
        orders("gas turn [1]", 9);
        orders("gas turn pace", 9);
        orders("gas turn if 1=1", 9);
        orders("gas spot", 8);
        orders("gas spot 6", 9);
        orders("gas spot 11", 9);
        orders("gas spot 1 1", 11);
        orders("gas pace 1", 9);
        Edges.says(ORDERS, "B, L, TIMES aside, NUMBERS and words count as PARTS.");
        orders("gas " + many("turn 1", "+", 50));
        orders("gas " + many("turn 1", "+", 51), 354);
        orders("gas " + many("spot 1", "+", 49) + "+1 times 20");
        orders("gas " + many("spot 1", "+", 49) + "+1 times 20 if 1=1", 4 + 49 * 7 + 1 + 9 + 4);
        orders("gas " + many("pace", "+", 48) + " times 20 if 1=turn 1");
        orders("gas 1;" + many("gas 1", ";", 11) + " times 3");
    }

    private static void running() {
        Edges.says(ORDERS, "Run CLAUSE by CLAUSE, each as often as TIMES tell (once without);");
        ThreeWheels x = new ThreeWheels();
        due("three and one and two", Check.orders(x, "gas 9 times 3; brake 20; gas 1 times 2"), 6);
        due("in their order", x.count(13), 9);
        due("undone last first", x.undo(), 0);
        due("undone last first", x.undo(), 0);
        due("undone last first", x.undo(), 1);
        due("ahead of the brake", x.count(13), 27);
        ThreeWheels often = new ThreeWheels();
        String acts = many("gas 1-0", ";", 11);
        for (int i = 0; i < 28; i++) {
            due("text after text", Check.orders(often, acts), 11);
            due("text after text", Check.orders(often, acts + ";gas 0"), -3);
        }
        Edges.says(ORDERS, "each time its \"if\" is asked (not run, if it is not so or BROKEN), then its SUMS from the left.");
        ThreeWheels y = new ThreeWheels();
        due("while it is so", Check.orders(y, "gas 2 times 20 if pace < 5"), 3);
        due("pace", y.count(13), 6);
        due("now and then", Check.orders(y, "lane 1 - side times 4 if done = 0 or done = 1; brake 6 if side = 0; gas 5 if pace = 0"), 4);
        due("pace", y.count(13), 5);
        due("not so", Check.orders(y, "gas 1 if 1=2; gas 0 if 1=2; ride if pace = 9"), 0);
        due("broken", Check.orders(y, "gas 1 if 1/0=1; gas 1/0 if 1/0=1; gas 1 if not 1/0=1"), 0);
        due("status", y.status(), 0);
        due("stopped", y.stopped(), -1);
        due("each time its sum", Check.orders(y, "gas done+1 times 3"), 3);
        due("1 and 2 and 3", y.count(13), 11);
        due("both sums of one clause", Check.orders(loaded(), "lean done by done; lean done by done-1"), 2);
        Edges.says(ORDERS, "next: AT, side: LANE, done: how many were run in this TEXT, ended: how the latest ride in it did (-1: none), turn: of a BEND, "
            + "spot: of a LOAD (-10: no such).");
        wordsOfOrders();
    }

    private static void wordsOfOrders() {
        ThreeWheels x = Edges.under("grips 0; holds 0");
        x.bend(0, 1, 0, 0);
        x.bend(9, 1, 0, 0);
        x.bend(-9, 1, 0, 0);
        x.load(1, 3, 1);
        x.load(1, 1, 1);
        x.lane(1);
        String[] first = {"pace = 0", "next = 0", "side = 1", "done = 0", "ended + 1 = 0", "hedges = 0", "turn 0 = 0", "turn 1 = 9", "turn 2 + 9 = 0",
            "turn 3 + 10 = 0", "turn 11 + 10 = 0", "spot 0 = 3", "spot 1 = 1", "spot 2 + 10 = 0", "spot 5 + 10 = 0"};
        for (String test : first) {
            due(test, Check.orders(x, "brake 1 if " + test), 1);
        }
        due("well", Check.orders(x, "gas 7; ride; lane 0 if pace = 7 and next = 1 and ended = 0 and done = 2 and hedges = 0"), 3);
        due("slid", Check.orders(x, "ride; lane 1 if pace = 0 and next = 2 and ended = 2 and done = 1 and hedges = 1 and side = 0"), 2);
        due("lifted", Check.orders(x, "gas 1; ride; lane 0 if next = 0 and ended = 1 and hedges = 2; brake 1 if done = 3 and side = 0"), 4);
        due("of this text alone", Check.orders(x, "brake 1 if ended + 1 = 0 and done = 0"), 1);
        due("the latest of two", Check.orders(x, "gas 1; ride; ride; brake 1 if ended = 2; put 0 at 2; brake 1 if spot 0 = 2"), 6);
        ThreeWheels most = new ThreeWheels();
        for (int i = 0; i < 12; i++) {
            most.bend(i - 3, 1, 0, 0);
            most.load(1, i % 4, 1);
        }
        for (int b = 0; b < 12; b++) {
            due("turn " + b, Check.orders(most, "brake 20 if turn " + b + " + 3 = " + b), 1);
        }
        for (int l = 0; l < 6; l++) {
            due("spot " + l, Check.orders(most, "brake 20 if spot " + l + " = " + l % 4), 1);
        }
    }

    private static ThreeWheels textOn(ThreeWheels x, String text) {
        Check.write(x, text);
        return x;
    }

    private static void wholly() {
        Edges.says(ORDERS, "One that can't be (a BROKEN SUM, as gas(), brake(), lane(), put(), lean(), ride() are REFUSED) ends it: all is as it was ahead of it.");
        String acts = "lane 0; lean 0 by 2; put 0 at 2; gas 9 times 3; ride; brake 9; ";
        String[] wrong = {"gas 1/0", "gas 1000*1000*1000*2", "gas 1%0", "put 1/0 at 0", "put 0 at 1/0", "lean 1/0 by 0", "lean 0 by 1/0", "brake 1/0",
            "lane 1/0", "gas 13", "gas 0", "gas 0-1", "gas 1000*1000*1000", "brake 26", "brake 0", "lane 3", "lane 0-1", "lane 2",
            "brake 9 times 2; put 0 at 4", "brake 9 times 2; put 3 at 0", "brake 9 times 2; put 0-1 at 0", "put 0 at 0", "brake 9 times 2; put 0 at 3",
            "lean 0 by 3", "lean 0 by 0-3", "lean 3 by 0", "lean 1 by 0", "brake 18; ride"};
        for (String text : wrong) {
            int stopped = text.startsWith("brake 9 ") || text.startsWith("brake 18") ? 7 : 6;
            Edges.refused(() -> textOn(Edges.standing(), acts + text), text, ThreeWheels::orders, -3, "tape", "fault", "stopped");
            ThreeWheels x = Edges.standing();
            Check.orders(x, acts + text);
            due(text + ", stopped", x.stopped(), stopped);
            due(text + ", fault", x.fault(), -1);
            due(text + ", tape", x.count(5), 0);
        }
        ThreeWheels x = Edges.standing();
        due("without one", Check.orders(x, acts + "brake 18"), 9);
        due("the lane", x.count(14), 0);
        due("the lean", x.of(0, 3), 2);
        due("the spot", x.of(0, 1), 2);
        due("at", x.count(12), 3);
        Edges.refused(() -> textOn(Edges.full(), "gas 1 times 20; ride times 3; gas 0"), "more acts than are kept", ThreeWheels::orders, -3, "tape",
            "fault", "stopped");
        Edges.refused(() -> textOn(Edges.standing(), "gas 9; gas 4 times 20 if pace < 60; lane side + 1 times 20"), "in the middle of its times",
            ThreeWheels::orders, -3, "tape", "fault", "stopped");
        Edges.refused(EdgesOfTextsTest::roadless, "a ride without bends", ThreeWheels::orders, -3, "tape", "fault", "stopped");
    }

    private static ThreeWheels roadless() {
        ThreeWheels x = Edges.standing();
        x.clear();
        return textOn(x, "gas 1; ride");
    }

    public static void main(String[] args) {
        tapeAndTokens();
        clauses();
        tests();
        plains();
        sums();
        mostParts();
        brackets();
        faults();
        broken();
        askedOrNot();
        laws();
        wordsOfLaws();
        lastThatHolds();
        otherClauses();
        fearsPullsLearns();
        barred();
        clausesOfOrders();
        loadsAndTimes();
        wordsThatOrdersHave();
        running();
        wholly();
        Edges.finish("EdgesOfTextsTest", TWO, LAWS, ORDERS);
    }
}
