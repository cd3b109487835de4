/** Each promise of the document by itself: ordinary inputs, the edges that it names, and wrong inputs. */
public final class PromisesTest {
    private static final int FAR_DOWN = Integer.MIN_VALUE;
    private static final int FAR_UP = Integer.MAX_VALUE;
    private static String promise = "";

    private PromisesTest() {
    }

    private static void due(String call, long got, long want) {
        Check.due(promise + ": " + call, got, want);
    }

    private static int law(ThreeWheels x, String text) {
        return Check.law(x, text);
    }

    private static int orders(ThreeWheels x, String text) {
        return Check.orders(x, text);
    }

    /** An object with a law in force. */
    private static ThreeWheels under(String text) {
        ThreeWheels x = new ThreeWheels();
        due("law: " + text, law(x, text), 0);
        due("force(0)", x.force(0), -1);
        return x;
    }

    private static void promise1() {
        ThreeWheels x = new ThreeWheels();
        int[] all = {0, 0, 0, 0, 0, 0, 0, 0, 0, 0, 0, -1, 0, 0, 0, 0, 0, 9, 10, 20, 0};
        for (int i = 0; i < all.length; i++) {
            due("count(" + i + ")", x.count(i), all[i]);
        }
        due("status", x.status(), 0);
        due("fault", x.fault(), -1);
        due("stopped", x.stopped(), -1);
        due("mud", x.mud(), 0);
        due("drawn", x.drawn(0), -1);
        due("NONE", ThreeWheels.NONE, -1);
        due("NOTHING", ThreeWheels.NOTHING, -1000);
        ThreeWheels y = new ThreeWheels();
        x.load(1, 1, 1);
        due("another is apart", y.count(0), 0);
    }

    private static void promise2() {
        ThreeWheels x = new ThreeWheels();
        int[][] wrong = {{-1, 0, 0}, {201, 0, 0}, {0, -1, 0}, {0, 4, 0}, {0, 0, -1}, {0, 0, 2}, {FAR_DOWN, 0, 0},
            {FAR_UP, 0, 0}, {0, FAR_UP, 0}, {0, 0, FAR_DOWN}};
        for (int[] w : wrong) {
            due("wrong", x.load(w[0], w[1], w[2]), -1);
            due("status", x.status(), -1);
        }
        due("none came", x.count(0), 0);
        due("counted", x.count(6), wrong.length);
        for (int i = 0; i < 6; i++) {
            due("load", x.load(i * 40, i % 4, i % 2), i);
            due("status", x.status(), 0);
        }
        due("no room", x.load(1, 1, 1), -5);
        due("-1 ahead of -5", x.load(201, 1, 1), -1);
        due("still six", x.count(0), 6);
        due("the last", x.of(5, 0), 200);

        ThreeWheels y = under("bans if weight > 100 and spot = 1; bans if alive = 0 and spot = 3 and turn + 1 = 0");
        due("barred by weight", y.load(101, 1, 1), -3);
        due("not barred", y.load(100, 1, 1), 0);
        due("barred by alive", y.load(0, 3, 0), -3);
        due("not barred", y.load(0, 3, 1), 1);
        for (int i = 2; i < 6; i++) {
            due("load", y.load(1, 0, 0), i);
        }
        due("-3 ahead of -5", y.load(101, 1, 1), -3);
        due("-5", y.load(101, 0, 1), -5);
        due("-1 ahead of -3", y.load(201, 1, 1), -1);
        due("none more", y.count(0), 6);

        ThreeWheels z = under("bans if bars > 2 or mood = 4 or long + camber + chair + rest + lean + turn > 0 - 6");
        due("load", z.load(1, 0, 0), 0);
        z.bars(3);
        due("bars are asked", z.load(1, 0, 0), -3);
        z.bars(2);
        z.terms(2, 4);
        due("mood is asked", z.load(1, 0, 0), -3);
        z.terms(2, 5);
        due("neither", z.load(1, 0, 0), 1);
        z.gas(5);
        due("one rides: no matter", z.load(1, 0, 0), 2);
        due("nothing to undo", z.undo(), -3);
    }

    private static void promise3() {
        ThreeWheels x = new ThreeWheels();
        due("none", x.of(0, 0), -1000);
        x.load(77, 1, 1);
        x.load(0, 3, 0);
        x.lean(0, -2);
        int[] first = {77, 1, 1, -2, 0, 0, 0, 0};
        int[] second = {0, 3, 0, 0, 0, 0, 0, 0};
        for (int i = 0; i < 8; i++) {
            due("of(0, " + i + ")", x.of(0, i), first[i]);
            due("of(1, " + i + ")", x.of(1, i), second[i]);
        }
        for (int what : new int[] {-1, 8, 100, FAR_DOWN, FAR_UP}) {
            due("what " + what, x.of(0, what), -1000);
        }
        for (int load : new int[] {-1, 2, 6, FAR_DOWN, FAR_UP}) {
            due("load " + load, x.of(load, 0), -1000);
        }
        due("status is left", x.status(), 0);
        law(x, "bans if spot = 2; bans if weight = 77 and spot = 0");
        x.force(0);
        int[][] barred = {{1, 0, 1, 0}, {0, 0, 1, 0}};
        for (int load = 0; load < 2; load++) {
            for (int spot = 0; spot < 4; spot++) {
                due("barred", x.of(load, 4 + spot), barred[load][spot]);
            }
        }
        law(x, "bans if spot = 1; bans if skill = 0 and spot = 3");
        x.force(1);
        due("barred where it is", x.of(0, 5), 1);
        due("skill is asked", x.of(1, 7), 1);
        law(x, "bans");
        x.force(2);
        due("bans without if", x.of(1, 4), 1);
        law(x, "bans if 1 / 0 = 1");
        x.force(3);
        due("a broken if", x.of(1, 4), 0);
        law(x, "bans if bars * 10 + mood = 37");
        x.force(4);
        x.bars(3);
        due("bars and mood", x.of(0, 4), 0);
        x.terms(2, 7);
        due("bars and mood", x.of(0, 4), 1);
        x.bars(4);
        due("bars and mood", x.of(0, 4), 0);
    }

    private static void promise4() {
        ThreeWheels x = new ThreeWheels();
        int[][] wrong = {{-10, 1, 0, 0}, {10, 1, 0, 0}, {0, 0, 0, 0}, {0, 100, 0, 0}, {0, 1, -4, 0}, {0, 1, 4, 0},
            {0, 1, 0, -1}, {0, 1, 0, 32}, {FAR_DOWN, 1, 0, 0}, {0, FAR_UP, 0, 0}, {0, 1, FAR_UP, 0}, {0, 1, 0, FAR_DOWN}};
        for (int[] w : wrong) {
            due("wrong", x.bend(w[0], w[1], w[2], w[3]), -1);
            due("status", x.status(), -1);
        }
        due("none came", x.count(1), 0);
        due("lowest", x.bend(-9, 1, -3, 0), 0);
        due("highest", x.bend(9, 99, 3, 31), 1);
        due("status", x.status(), 0);
        due("turn", x.at(0, 0), -9);
        due("turn", x.at(1, 0), 9);
        due("holes", x.at(1, 3), 31);
        for (int i = 2; i < 12; i++) {
            due("bend", x.bend(0, i, 0, 0), i);
        }
        due("no room", x.bend(0, 1, 0, 0), -5);
        due("status", x.status(), -5);
        due("-1 ahead of -5", x.bend(10, 1, 0, 0), -1);
        due("twelve", x.count(1), 12);
    }

    private static void promise5() {
        ThreeWheels x = new ThreeWheels();
        due("none", x.clear(), -3);
        due("status", x.status(), -3);
        x.bend(0, 50, 0, 0);
        x.bend(1, 50, 0, 0);
        x.sight(1, 5, 1);
        x.load(3, 0, 1);
        x.gas(10);
        x.lane(1);
        x.ride();
        due("at", x.count(12), 1);
        due("had", x.clear(), 2);
        due("status", x.status(), 0);
        due("bends", x.count(1), 0);
        due("at", x.count(12), 0);
        due("sights", x.count(2), 0);
        due("pace stays", x.count(13), 10);
        due("lane stays", x.count(14), 1);
        due("skill stays", x.count(16), 5);
        due("loads stay", x.count(0), 1);
        due("what can be undone", x.count(4), 0);
        due("gone", x.at(0, 0), -1000);
        due("again", x.clear(), -3);
        due("a new one", x.bend(2, 3, 1, 4), 0);
        due("of its own", x.at(0, 1), 3);
    }

    private static void promise6() {
        ThreeWheels x = new ThreeWheels();
        due("none", x.at(0, 0), -1000);
        x.bend(-4, 39, 3, 21);
        x.bend(5, 9, -2, 0);
        x.load(100, 2, 1);
        x.load(59, 3, 1);
        x.load(70, 0, 1);
        x.load(30, 1, 0);
        x.bars(4);
        int[] all = {-4, 39, 3, 21, 600 + 20 * 159, 2000 + 10 * 100, 60, 15 + 7 - 4, 3};
        for (int i = 0; i < all.length; i++) {
            due("at(0, " + i + ")", x.at(0, i), all[i]);
        }
        due("pulls", x.at(1, 7), -10 + 7 - 4);
        due("learns, cut", x.at(1, 8), 0);
        x.lean(0, 2);
        x.lean(2, -1);
        due("holds with lean", x.at(0, 4), 600 + 20 * 159 + 200 - 70);
        due("grips less lean", x.at(0, 5), 3000 - 130);
        for (int what : new int[] {-1, 9, FAR_DOWN, FAR_UP}) {
            due("what", x.at(0, what), -1000);
        }
        for (int bend : new int[] {-1, 2, 12, FAR_DOWN, FAR_UP}) {
            due("bend", x.at(bend, 0), -1000);
        }
        due("status is left", x.status(), 0);

        ThreeWheels least = new ThreeWheels();
        least.bend(1, 1, 0, 0);
        for (int i = 0; i < 6; i++) {
            least.load(200, 0, 1);
            least.lean(i, -2);
        }
        due("0 at least", least.at(0, 4), 0);
        for (int i = 0; i < 6; i++) {
            least.put(i, 2);
            least.lean(i, 2);
        }
        due("0 at least", least.at(0, 5), 0);

        ThreeWheels low = under("holds 0 - 1; grips 0 - 1; fears 0 - 1; pulls 0 - 100; learns 0 - 1");
        low.bend(1, 10, 1, 0);
        int[] lowest = {0, 0, 0, -99, 0};
        ThreeWheels high = under("holds 1000*100; grips 1000*1000; fears 61; pulls 100; learns 101");
        high.bend(1, 10, 1, 0);
        int[] highest = {99999, 99999, 60, 99, 100};
        ThreeWheels words = under("holds turn*1000+long*10+camber+9; grips chair*100+rest; fears lean+30; "
            + "pulls bars*10+mood; learns weight+spot+alive+skill+50");
        words.bend(7, 82, -3, 0);
        words.load(12, 2, 0);
        words.load(5, 3, 1);
        words.load(7, 1, 1);
        words.lean(1, 2);
        words.lean(2, -1);
        words.bars(-6);
        words.terms(2, 8);
        int[] told = {7000 + 820 - 3 + 9, 1707, 33, -52, 47};
        for (int i = 0; i < 5; i++) {
            due("lowest", low.at(0, 4 + i), lowest[i]);
            due("highest", high.at(0, 4 + i), highest[i]);
            due("words", words.at(0, 4 + i), told[i]);
        }

        ThreeWheels last = under("holds 5; holds 6 if turn < 0; holds 7 if turn < 0 - 5; holds 1/turn if turn = 0;"
            + "holds 1000*1000*1000*2 if turn = 3; grips 9 if 1/turn = 1; fears 8 if not turn > 2 and turn > 0");
        int[] turns = {0, 1, 3, -1, -6};
        int[] holds = {5, 5, 5, 6, 7};
        int[] grips = {2000, 9, 2000, 2000, 2000};
        int[] fears = {60, 8, 60, 60, 60};
        for (int i = 0; i < turns.length; i++) {
            last.bend(turns[i], 1, 0, 0);
            due("the last that holds", last.at(i, 4), holds[i]);
            due("a broken if", last.at(i, 5), grips[i]);
            due("and", last.at(i, 6), fears[i]);
        }
    }

    private static void promise7() {
        ThreeWheels x = new ThreeWheels();
        due("first", x.bars(9), 9);
        due("highest", x.bars(-9), 18);
        due("lowest", x.bars(3), 0);
        for (int value : new int[] {-10, 10, FAR_DOWN, FAR_UP}) {
            due("wrong", x.bars(value), -1);
            due("status", x.status(), -1);
        }
        due("as it was", x.count(17), 12);
        due("again", x.bars(3), 12);
        due("status", x.status(), 0);
        due("not to be undone", x.undo(), -3);
    }

    private static void promise8() {
        ThreeWheels x = new ThreeWheels();
        int[][] wrong = {{0, 0}, {0, 61}, {1, 0}, {1, 61}, {2, -1}, {2, 10}, {-1, 5}, {3, 5}, {FAR_UP, 1}, {FAR_DOWN, 1},
            {0, FAR_UP}, {1, FAR_DOWN}, {2, FAR_UP}};
        for (int[] w : wrong) {
            due("wrong", x.terms(w[0], w[1]), -1);
            due("status", x.status(), -1);
        }
        due("gas", x.terms(0, 60), 10);
        due("gas", x.terms(0, 1), 60);
        due("brake", x.terms(1, 1), 20);
        due("brake", x.terms(1, 60), 1);
        due("mood", x.terms(2, 9), 0);
        due("mood", x.terms(2, 0), 9);
        due("status", x.status(), 0);
        due("gas", x.count(18), 1);
        due("brake", x.count(19), 60);
        due("mood", x.count(20), 0);
        due("gas by 2", x.gas(2), -1);
        due("gas by 1", x.gas(1), 1);
        due("brake by 60", x.brake(60), 0);
    }

    private static void promise9() {
        ThreeWheels x = new ThreeWheels();
        for (int i = 1; i <= 20; i++) {
            due("feed", x.feed(0, 0, 0, 0, 0), 20 * i);
        }
        due("no more", x.feed(0, 0, 0, 0, 0), -1);
        due("as it was", x.count(5), 400);
        due("381", x.end(381), 381);
        due("would be 401", x.feed(0, 0, 0, 0, 0), -1);
        due("380", x.end(380), 380);
        due("just 400", x.feed(0, 0, 0, 0, 0), 400);
        due("status", x.status(), 0);
        x.end(0);
        // Turn 5, long 7, camber 1, holes 31, the highest byte first; the sign bit is a bit as others are.
        x.feed(14 << 24 | 7 << 16 | 4 << 8 | 31, 9 << 24 | 99 << 16 | 3 << 8, -1, FAR_DOWN, 1 << 16 | 3 << 8);
        due("rows", x.row(), 3);
        due("mud", x.mud(), 2);
        int[] first = {5, 7, 1, 31};
        for (int i = 0; i < 4; i++) {
            due("bytes", x.at(0, i), first[i]);
        }
        due("bytes", x.at(1, 1), 99);
        due("bytes", x.at(2, 0), -9);
    }

    private static void promise10() {
        ThreeWheels x = new ThreeWheels();
        due("nothing of nothing", x.end(0), 0);
        due("more than it has", x.end(1), -1);
        due("below 0", x.end(-1), -1);
        x.feed(Check.four("ride", 0), Check.four(";rid", 0), Check.four("e   ", 0), 0, 0);
        due("all", x.end(20), 20);
        due("more", x.end(21), -1);
        due("far", x.end(FAR_UP), -1);
        due("far", x.end(FAR_DOWN), -1);
        due("as it was", x.count(5), 20);
        due("first four", x.end(4), 4);
        due("cut off", x.end(5), -1);
        due("has", x.count(5), 4);
        due("status is left", x.status(), 0);
        due("the first ones", x.orders(), -3);
        due("a ride", x.stopped(), 0);
    }

    private static void promise11() {
        ThreeWheels x = new ThreeWheels();
        due("empty", x.row(), -6);
        due("status", x.status(), -6);
        due("lowest, highest", Check.row(x, 0, 1, 0, 0, 18, 99, 6, 31), 2);
        int[][] rows = {{-9, 1, -3, 0}, {9, 99, 3, 31}};
        for (int b = 0; b < 2; b++) {
            for (int i = 0; i < 4; i++) {
                due("row", x.at(b, i), rows[b][i]);
            }
        }
        due("the tape", x.count(5), 0);
        due("none of them", Check.row(x, 19, 1, 0, 0, 0, 0, 0, 0, 0, 100, 0, 0, 0, 1, 7, 0, 0, 1, 0, 32), 0);
        due("mud", x.mud(), 5);
        due("status", x.status(), 0);
        x.gas(1);
        due("can be undone", x.count(4), 1);
        due("empty", x.row(), -6);
        due("still", x.count(4), 1);
        Check.row(x, 255);
        due("not behind a row", x.count(4), 0);
        int[] many = new int[14 * 4];
        for (int i = 0; i < many.length; i++) {
            many[i] = i % 4 == 1 ? 1 : 3;
        }
        due("as many as there is room for", Check.row(x, many), 10);
        due("mud", x.mud(), 4);
        due("bends", x.count(1), 12);
        due("no room is no refusal", Check.row(x, 9, 1, 3, 0), 0);
        due("status", x.status(), 0);
    }

    private static void promise12() {
        ThreeWheels x = new ThreeWheels();
        due("ahead of any", x.mud(), 0);
        x.row();
        due("refused", x.mud(), 0);
        Check.row(x, 9, 1, 3, 0, 9, 1, 3);
        due("ended within", x.mud(), 1);
        x.row();
        due("refused: of the one ahead", x.mud(), 1);
        Check.row(x, 9, 1, 3);
        due("three bytes", x.mud(), 1);
        Check.row(x, 255, 255, 255, 255, 255);
        due("both", x.mud(), 2);
        x.image(0);
        Check.row(x, 9, 1, 3, 0);
        due("none", x.mud(), 0);
        Check.row(x, 1);
        x.back(0);
        due("images do not keep it", x.mud(), 1);
    }

    private static void fault(boolean orders, String text, int place) {
        ThreeWheels x = new ThreeWheels();
        int got = orders ? orders(x, text) : law(x, text);
        if (place == ThreeWheels.NONE) {
            due(text, got == -6 ? 1 : 0, 0);
        } else {
            due(text, got, -6);
            due("status", x.status(), -6);
        }
        due("fault of " + text, x.fault(), place);
        due("the tape", x.count(5), 0);
        due("laws", x.count(3), orders || place >= 0 ? 0 : 1);
    }

    private static String many(String what, String between, int times) {
        StringBuilder all = new StringBuilder();
        for (int i = 0; i < times; i++) {
            all.append(i == 0 ? "" : between).append(what);
        }
        return all.toString();
    }

    private static void promise13() {
        ThreeWheels x = new ThreeWheels();
        due("nothing", x.law(), -6);
        due("fault", x.fault(), 0);
        due("blanks", law(x, "   "), -6);
        due("fault", x.fault(), 3);
        due("status", x.status(), -6);
        for (int i = 0; i < 6; i++) {
            due("law", law(x, "holds " + i), i);
            due("tape", x.count(5), 0);
            due("status", x.status(), 0);
        }
        law(x, "holds holds");
        due("no room, whatever it is", x.status(), -5);
        due("fault of the one that was read", x.fault(), -1);
        due("the tape", x.count(5), 0);
        due("no room, with nothing", x.law(), -5);
        due("laws", x.count(3), 6);
        x.bend(1, 1, 1, 1);
        for (int i = 0; i < 6; i++) {
            x.force(i);
            due("each its own", x.at(0, 4), i);
        }
        String[] fine = {"holds 1", "  holds  1  ", "bans", "bans if 1=1", "grips[[1]]", "fears 0001000", "pulls 1-1-1",
            "learns turn*long/camber%chair+rest-lean", "holds 1 if not not not 1<2 or (2>1 and 3=3)",
            "holds 1if 1=1", "holds 1;grips 2;bans", "bans if((1=1))", "bans if (1=1) and [1]=1",
            many("bans", ";", 12), "holds " + many("1", "+", 50), "holds " + many("[", "", 8) + "1" + many("]", "", 8),
            "bans if " + many("(", "", 4) + many("[", "", 4) + "1" + many("]", "", 4) + "=1" + many(")", "", 4),
            "bans if " + many("not ", "", 90) + "1=1"};
        for (String text : fine) {
            fault(false, text, -1);
        }
    }

    private static void faultsOfBoth() {
        fault(false, "hold 1", 0);
        fault(false, "Holds 1", 0);
        fault(false, "ride", 0);
        fault(true, "holds 1", 0);
        fault(true, "rides", 0);
        fault(false, ";bans", 0);
        fault(false, "bans;", 5);
        fault(false, "bans; ", 6);
        fault(false, "bans;;bans", 5);
        fault(false, "bans bans", 5);
        fault(false, "bans 1", 5);
        fault(false, "holds", 5);
        fault(false, "holds if 1=1", 6);
        fault(false, "holds 1 times 2", 8);
        fault(false, "holds 1001", 6);
        fault(false, "holds 1000 + 99999999999999999999", 13);
        fault(false, "holds 1 1", 8);
        fault(false, "holds 1a", 7);
        fault(false, "holds pace", 6);
        fault(true, "gas mood", 4);
        fault(true, "gas weight", 4);
        fault(false, "holds turn 1", 11);
        fault(false, "holds -1", 6);
        fault(false, "holds (1)", 6);
        fault(false, "holds [1", 8);
        fault(false, "holds [1)", 8);
        fault(false, "holds []", 7);
        fault(false, "holds 1+", 8);
        fault(false, "holds 1+*2", 8);
        fault(false, "bans if", 7);
        fault(false, "bans if 1", 9);
        fault(false, "bans if 1<2<3", 11);
        fault(false, "bans if 1=1 or", 14);
        fault(false, "bans if 1=1 and or", 16);
        fault(false, "bans if not", 11);
        fault(false, "bans if (1=1", 12);
        fault(false, "bans if (1)=1", 10);
        fault(false, "bans if (1=1]", 12);
        fault(false, "bans if 1=1)", 11);
        fault(false, "bans if [1=1]", 10);
        fault(false, "bans if 1>=1", 10);
        fault(false, "bans if 1=1 if 1=1", 12);
        fault(false, "bans\tif 1=1", 4);
        fault(false, "bans \u00e9", 5);
        fault(false, many("bans", ";", 13), 60);
        fault(false, many("bans", ";", 12) + ";", 60);
        fault(false, many("bans", ";", 12) + "; x", 61);
        fault(false, "holds " + many("1", "+", 51), 106);
        fault(false, "holds " + many("1", "+", 50) + "+[1]", 107);
        fault(false, "holds " + many("1", "+", 25) + ";holds " + many("1", "+", 26), 6 + 49 + 7 + 50);
        fault(false, "holds " + many("[", "", 9) + "1" + many("]", "", 9), 14);
        fault(false, "bans if " + many("(", "", 9) + "1=1", 16);
        fault(false, "bans if " + many("(", "", 5) + many("[", "", 4) + "1", 16);
        fault(false, "bans if " + many("(", "", 8) + many("[", "", 1) + "1", 16);
    }

    private static void promise14() {
        ThreeWheels x = new ThreeWheels();
        due("nothing", x.orders(), -6);
        due("fault", x.fault(), 0);
        due("blanks", orders(x, "  "), -6);
        due("fault", x.fault(), 2);
        due("gas", orders(x, "gas 3"), 1);
        due("tape", x.count(5), 0);
        due("pace", x.count(13), 3);
        due("times", orders(x, "gas 2 times 3"), 3);
        due("pace", x.count(13), 9);
        due("if", orders(x, "gas 5 if pace > 9; gas 1 if pace = 9; brake pace-1 if 1/0=0"), 1);
        due("pace", x.count(13), 10);
        due("each time it is asked", orders(x, "gas 1 times 20 if pace < 13"), 3);
        due("pace", x.count(13), 13);
        due("done", orders(x, "gas done + 1 times 3"), 3);
        due("pace", x.count(13), 19);
        due("none of them", orders(x, "gas 1 if pace = 0; ride if 1 = 2"), 0);
        due("status", x.status(), 0);
        due("lane", orders(x, "lane 1; lane side + 1"), 2);
        due("lane", x.count(14), 2);
        ordersAllOrNothing();
        wordsOfOrders();
        String[] fine = {"ride if 1=2", "gas 1 times 1", "gas 1 times 020 if 1=1", "put 0 at 0 if 1=2", "lean 0 by 1 if 1=2",
            "gas turn 0+spot 5+turn 11 if 1=2", many("gas 1", ";", 12), "gas " + many("turn 1", "+", 48) + "if 1=2",
            "gas 1 times 20;" + many("gas 1 times 1", ";", 11)};
        for (String text : fine) {
            fault(true, text, -1);
        }
        fault(true, "gas", 3);
        fault(true, "put 0", 5);
        fault(true, "put 0 by 1", 6);
        fault(true, "put 0 1", 6);
        fault(true, "lean 0 1", 7);
        fault(true, "lean 0 at 1", 7);
        fault(true, "lean by 1", 5);
        fault(true, "ride 1", 5);
        fault(true, "gas 1 times", 11);
        fault(true, "gas 1 times 0", 12);
        fault(true, "gas 1 times 21", 12);
        fault(true, "gas 1 times pace", 12);
        fault(true, "gas 1 times 1 times 1", 14);
        fault(true, "gas 1 if 1=1 times 2", 13);
        fault(true, "gas turn", 8);
        fault(true, "gas turn 12", 9);
        fault(true, "gas turn pace", 9);
        fault(true, "gas spot 6", 9);
        fault(true, "gas spot [1]", 9);
        fault(true, "gas " + many("turn 1", "+", 50) + "+turn 1", 354);
    }

    private static void ordersAllOrNothing() {
        ThreeWheels x = new ThreeWheels();
        x.load(50, 0, 1);
        x.bend(-9, 90, 0, 0);
        x.bend(1, 90, 0, 0);
        x.gas(4);
        String acts = "gas 5; lane 1; lean 0 by 2; ride; brake 20; put 0 at 3;";
        String[] wrong = {"gas 11", "gas 0", "gas 1/0", "gas 0 - 1", "brake 21", "brake 0", "lane 3", "lane 0-1", "lane 1+side/1/0",
            "put 0 at 4", "put 1 at 0", "put 0-1 at 0", "put 1/0 at 0", "put 0 at 1/0", "lean 0 by 3", "lean 1 by 0",
            "lean 0 by 0-3", "lean 0 by 1%0", "lean 1/0 by 1", "ride", "gas 1000*1000*1000*2/1000/1000/1000"};
        int kept = x.count(4);
        for (String text : wrong) {
            due(text, orders(x, acts + text), -3);
            due("status", x.status(), -3);
            due("stopped", x.stopped(), 6);
            due("fault", x.fault(), -1);
            int[] all = {4, 0, 0, 0};
            for (int i = 0; i < 4; i++) {
                due("as it was", x.count(13 + i), all[i]);
            }
            due("at", x.count(12), 0);
            due("spot", x.of(0, 1), 0);
            due("lean", x.of(0, 3), 0);
            due("undo", x.count(4), kept);
        }
        due("counted once each", x.count(8), wrong.length);
        due("inner ones are no calls", x.count(6) + x.count(7), 0);
        due("without it", orders(x, acts), -6);
        due("without it", orders(x, "gas 5; lane 1; lean 0 by 2; ride; brake 20; put 0 at 3"), 6);
        due("spot", x.of(0, 1), 3);
        due("at", x.count(12), 1);
        due("undo", x.count(4), 7);
        due("in the middle of its times", orders(x, "lane 2 ; lane side - 1 times 5"), -3);
        due("stopped", x.stopped(), 1);
        due("lane", x.count(14), 1);
        due("the latest is undone", x.undo(), 3);
        due("then", x.undo(), 1);
        due("lane too far", orders(x, "lane 0; lane 2"), -3);
        due("stopped", x.stopped(), 1);
    }

    private static void wordsOfOrders() {
        ThreeWheels x = new ThreeWheels();
        x.load(50, 2, 1);
        x.load(50, 1, 0);
        x.bend(-1, 90, 0, 0);
        x.bend(7, 20, 0, 0);
        x.terms(0, 60);
        due("turn", orders(x, "gas turn 0 + 2"), 1);
        due("pace", x.count(13), 1);
        due("turn", orders(x, "gas turn 1"), 1);
        due("pace", x.count(13), 8);
        due("no such bend", orders(x, "gas turn 2 + 11; gas turn 11 + 11"), 2);
        due("pace", x.count(13), 10);
        due("spot", orders(x, "gas spot 0; gas spot 1"), 2);
        due("pace", x.count(13), 13);
        due("no such load", orders(x, "gas spot 2 + 11; gas spot 5 + 11"), 2);
        due("pace", x.count(13), 15);
        due("next, ended", orders(x, "gas 1 if next = 0 and ended = 0 - 1; ride; gas 2 if next = 1 and ended = 0"), 3);
        due("pace", x.count(13), 18);
        due("ended, hedges", orders(x, "gas 20; ride; gas 5 if ended = 2 and hedges = 1 and pace = 0"), 3);
        due("pace", x.count(13), 5);
        due("ended of this text", orders(x, "gas 1 if ended + 1 = 0"), 1);
        due("side", orders(x, "lane 1; gas side; lane side+1; gas side"), 4);
        due("pace", x.count(13), 9);
        due("spot as it goes", orders(x, "brake pace; put 0 at 3; gas spot 0 * 10"), 3);
        due("pace", x.count(13), 30);
        due("at as it goes", orders(x, "ride; brake 20; ride; gas next + 1"), 4);
        due("pace", x.count(13), 11);
        due("at", x.count(12), 0);
    }

    private static void promise15() {
        ThreeWheels x = new ThreeWheels();
        due("without", x.fault(), -1);
        law(x, "bans x");
        due("law", x.fault(), 5);
        orders(x, "ride");
        due("orders that were read", x.fault(), -1);
        orders(x, "ride x x");
        due("orders", x.fault(), 5);
        due("left", x.status(), -6);
        law(x, "bans");
        due("law that was read", x.fault(), -1);
        orders(x, "rid");
        due("orders", x.fault(), 0);
        x.image(0);
        orders(x, "ride ride");
        x.back(0);
        due("images do not keep it", x.fault(), 5);
        x.row();
        due("a row has none", x.fault(), 5);
        faultsOfBoth();
    }

    private static void promise16() {
        ThreeWheels x = new ThreeWheels();
        due("ahead of any", x.stopped(), -1);
        orders(x, "gas 1; gas 1; gas 0");
        due("third", x.stopped(), 2);
        law(x, "bans");
        due("left by law", x.stopped(), 2);
        orders(x, "gas 1");
        due("done", x.stopped(), -1);
        orders(x, "gas 0");
        due("first", x.stopped(), 0);
        orders(x, "gas");
        due("-6", x.stopped(), -1);
        orders(x, many("gas 1", ";", 11) + ";ride");
        due("twelfth", x.stopped(), 11);
        x.image(0);
        orders(x, "gas 0");
        x.back(0);
        due("images do not keep it", x.stopped(), 0);
        x.orders();
        due("nothing", x.stopped(), -1);
    }

    private static void promise17() {
        ThreeWheels x = new ThreeWheels();
        due("none", x.force(0), -2);
        due("status", x.status(), -2);
        due("NONE is none", x.force(-1), -1);
        due("status", x.status(), 0);
        law(x, "holds 11");
        law(x, "holds 22");
        x.bend(1, 1, 0, 0);
        due("not yet", x.at(0, 4), 600);
        due("first", x.force(1), -1);
        due("status", x.status(), 0);
        due("in force", x.at(0, 4), 22);
        due("was", x.force(0), 1);
        due("in force", x.at(0, 4), 11);
        for (int law : new int[] {2, -2, 6, FAR_DOWN, FAR_UP}) {
            due("no such", x.force(law), -2);
        }
        due("counted", x.count(7), 6);
        due("still", x.count(11), 0);
        due("none again", x.force(-1), 0);
        due("none", x.count(11), -1);
        due("without", x.at(0, 4), 600);
    }

    private static void promise18() {
        ThreeWheels x = new ThreeWheels();
        for (int by : new int[] {0, -1, 11, FAR_DOWN, FAR_UP}) {
            due("wrong", x.gas(by), -1);
            due("status", x.status(), -1);
        }
        due("least", x.gas(1), 1);
        due("most", x.gas(10), 11);
        due("status", x.status(), 0);
        x.terms(0, 60);
        due("not 60 yet", x.gas(48), 59);
        due("60 at most", x.gas(2), 60);
        due("at 60", x.gas(60), 60);
        due("pace", x.count(13), 60);
        due("undo", x.undo(), 0);
        due("pace", x.count(13), 60);
        due("undo", x.undo(), 0);
        due("pace", x.count(13), 59);
    }

    private static void promise19() {
        ThreeWheels x = new ThreeWheels();
        for (int by : new int[] {0, -1, 21, FAR_DOWN, FAR_UP}) {
            due("wrong", x.brake(by), -1);
            due("status", x.status(), -1);
        }
        due("at 0", x.brake(20), 0);
        due("status", x.status(), 0);
        x.terms(0, 60);
        x.gas(50);
        due("most", x.brake(20), 30);
        due("least", x.brake(1), 29);
        x.brake(20);
        due("0 at least", x.brake(10), 0);
        due("undo", x.undo(), 1);
        due("pace", x.count(13), 9);
    }

    private static void promise20() {
        ThreeWheels x = new ThreeWheels();
        for (int value : new int[] {-1, 3, FAR_DOWN, FAR_UP}) {
            due("wrong", x.lane(value), -1);
            due("status", x.status(), -1);
        }
        due("too far", x.lane(2), -3);
        due("status", x.status(), -3);
        due("the same", x.lane(0), 0);
        due("one beside", x.lane(1), 0);
        due("one beside", x.lane(2), 1);
        due("status", x.status(), 0);
        due("too far back", x.lane(0), -3);
        due("lane", x.count(14), 2);
        due("undo", x.undo(), 2);
        due("lane", x.count(14), 1);
        due("undo", x.count(4), 2);
    }

    private static void promise21() {
        ThreeWheels x = new ThreeWheels();
        due("no such", x.put(0, 0), -2);
        due("-1 ahead of -2", x.put(0, 4), -1);
        x.load(100, 0, 1);
        x.load(10, 3, 0);
        due("put", x.put(0, 3), 0);
        due("two on a spot", x.of(0, 1), 3);
        due("status", x.status(), 0);
        due("back", x.put(0, 1), 3);
        due("the same", x.put(0, 1), 1);
        for (int load : new int[] {2, -1, 6, FAR_DOWN, FAR_UP}) {
            due("no such", x.put(load, 0), -2);
        }
        for (int spot : new int[] {-1, 4, FAR_DOWN, FAR_UP}) {
            due("wrong", x.put(0, spot), -1);
        }
        x.gas(1);
        due("it rides", x.put(0, 0), -3);
        due("status", x.status(), -3);
        due("-1 ahead", x.put(0, 4), -1);
        due("-2 ahead", x.put(2, 0), -2);
        x.brake(1);
        law(x, "bans if spot = 0 and weight = 100; bans if spot = 2 and alive = 0; bans if spot = 1");
        x.force(0);
        due("barred", x.put(0, 0), -3);
        due("not barred", x.put(1, 0), 3);
        due("barred", x.put(1, 2), -3);
        due("not barred", x.put(0, 2), 1);
        due("barred where it was", x.put(0, 1), -3);
        due("undo", x.undo(), 3);
        due("barred, but undone", x.of(0, 1), 1);
        law(x, "bans if bars = 3");
        x.force(1);
        due("bars are 0", x.put(0, 2), 1);
        x.bars(3);
        due("bars are 3", x.put(0, 1), -3);
        x.bars(-3);
        due("bars are below 0", x.put(0, 1), 2);
    }

    private static void promise22() {
        ThreeWheels x = new ThreeWheels();
        due("no such", x.lean(0, 0), -2);
        due("-1 ahead of -2", x.lean(0, 3), -1);
        x.load(100, 0, 1);
        x.load(10, 3, 0);
        due("most", x.lean(0, 2), 2);
        due("least", x.lean(0, -2), 4);
        due("then", x.lean(0, 0), 0);
        due("status", x.status(), 0);
        due("not alive", x.lean(1, 1), -3);
        due("status", x.status(), -3);
        due("not alive", x.lean(1, 0), -3);
        for (int load : new int[] {2, -1, 6, FAR_DOWN, FAR_UP}) {
            due("no such", x.lean(load, 0), -2);
        }
        for (int value : new int[] {-3, 3, FAR_DOWN, FAR_UP}) {
            due("wrong", x.lean(1, value), -1);
        }
        x.gas(5);
        due("as it rides", x.lean(0, 1), 2);
        due("lean", x.of(0, 3), 1);
        due("undo", x.undo(), 4);
        due("lean", x.of(0, 3), 0);
    }

    private static void promise23() {
        ThreeWheels x = new ThreeWheels();
        due("no bends", x.ride(), -3);
        x.gas(10);
        due("no bends", x.ride(), -3);
        due("status", x.status(), -3);
        x.bend(-6, 95, 0, 0);
        x.bend(8, 35, 0, 0);
        x.bend(0, 9, 0, 0);
        due("well at 600", x.ride(), 0);
        due("status", x.status(), 0);
        due("at", x.count(12), 1);
        due("skill", x.count(16), 9);
        due("pace", x.count(13), 10);
        x.gas(6);
        due("slid at 2048", x.ride(), 2);
        due("at", x.count(12), 2);
        due("skill", x.count(16), 9);
        due("pace", x.count(13), 0);
        due("hedges", x.count(15), 1);
        due("pace 0", x.ride(), -3);
        x.gas(10);
        due("straight on", x.ride(), 0);
        due("from the start again", x.count(12), 0);
        x.gas(1);
        due("lifted at 726", x.ride(), 1);
        due("at", x.count(12), 1);
        due("hedges", x.count(15), 2);
        due("pace", x.count(13), 0);
        law(x, "learns 70; fears 1");
        x.force(0);
        x.gas(10);
        due("above what is feared", x.ride(), 0);
        due("skill", x.count(16), 79);
        due("well", x.ride(), 0);
        due("100 at most", x.count(16), 100);
        x.lane(1);
        law(x, "learns skill/25+1");
        x.force(1);
        due("100 at most", x.ride(), 0);
        due("100 at most", x.count(16), 100);
        x.undo();
        x.undo();
        x.undo();
        due("hedge behind the last", x.count(12), 2);
        x.clear();
        x.bend(1, 1, 0, 0);
        x.terms(0, 60);
        x.gas(45);
        due("slid", x.ride(), 2);
        due("0 again behind the last", x.count(12), 0);
    }

    private static void promise24() {
        ThreeWheels x = new ThreeWheels();
        due("none", x.undo(), -3);
        due("status", x.status(), -3);
        x.load(10, 0, 1);
        x.bend(-9, 50, 0, 0);
        x.gas(5);
        x.brake(2);
        x.lane(1);
        x.brake(3);
        x.put(0, 2);
        x.lean(0, 1);
        x.gas(10);
        x.ride();
        due("eight", x.count(4), 8);
        due("in the hedge", x.count(15), 1);
        int[] kinds = {5, 0, 4, 3, 1, 2, 1, 0};
        for (int kind : kinds) {
            due("undo", x.undo(), kind);
            due("status", x.status(), 0);
        }
        due("hedges", x.count(15), 0);
        due("at", x.count(12), 0);
        due("pace", x.count(13), 0);
        due("lane", x.count(14), 0);
        due("spot", x.of(0, 1), 0);
        due("lean", x.of(0, 3), 0);
        due("none", x.undo(), -3);
        for (int i = 0; i < 20; i++) {
            x.gas(1);
        }
        due("16 are kept", x.count(4), 16);
        for (int i = 0; i < 16; i++) {
            due("undo", x.undo(), 0);
        }
        due("the others stay", x.count(13), 4);
        due("none", x.undo(), -3);
        due("by orders", orders(x, "gas 1 times 9; lane 1; brake 1 times 7"), 17);
        due("16 are kept", x.count(4), 16);
        due("undo", x.undo(), 1);
        due("pace", x.count(13), 7);
        due("15 then", x.count(4), 15);
        // Each that was not refused leaves nothing to undo, each that was leaves all.
        x.load(201, 0, 0);
        x.bend(0, 0, 0, 0);
        x.row();
        x.gas(0);
        x.bars(1);
        x.terms(0, 9);
        x.sight(0, 1, 1);
        x.forget();
        law(x, "bans if spot = 3");
        x.force(0);
        x.days(1, 5);
        x.image(1);
        x.back(2);
        due("all", x.count(4), 15);
        due("barred", x.load(1, 3, 1), -3);
        due("all", x.count(4), 15);
        x.bend(1, 1, 1, 1);
        due("behind a bend", x.undo(), -3);
        x.gas(1);
        x.load(1, 0, 1);
        due("behind a load", x.undo(), -3);
        x.gas(1);
        Check.row(x, 1);
        due("behind a row", x.undo(), -3);
        x.gas(1);
        x.clear();
        due("behind a clear", x.undo(), -3);
        x.gas(1);
        x.clear();
        due("a refused clear", x.undo(), 0);
        x.gas(1);
        x.back(1);
        due("behind back", x.undo(), -3);
    }

    private static void promise25() {
        ThreeWheels x = new ThreeWheels();
        due("no bends", x.goes(0, 1), -1);
        x.bend(-2, 1, 0, 0);
        x.bend(5, 1, 0, 0);
        x.bend(0, 1, 0, 0);
        due("just", x.goes(0, 17), 0);
        due("lifted", x.goes(0, 18), 1);
        due("just", x.goes(1, 20), 0);
        due("slid", x.goes(1, 21), 2);
        due("straight", x.goes(2, 60), 0);
        for (int pace : new int[] {0, -1, 61, FAR_DOWN, FAR_UP}) {
            due("wrong", x.goes(2, pace), -1);
        }
        for (int bend : new int[] {-1, 3, 12, FAR_DOWN, FAR_UP}) {
            due("no such", x.goes(bend, 1), -1);
        }
        due("status is left", x.status(), 0);
        law(x, "fears 5; holds 0; grips 0");
        x.force(0);
        due("at 0 it lifts", x.goes(0, 1), 1);
        due("at 0 it slides", x.goes(1, 1), 2);
        due("feared or not", x.goes(2, 60), 0);
        law(x, "holds 2; grips 5");
        x.force(1);
        due("just", x.goes(0, 1), 0);
        due("just", x.goes(1, 1), 0);
    }

    private static void promise26() {
        ThreeWheels x = new ThreeWheels();
        due("none", x.quick(0, 0), -1);
        x.bend(-4, 30, 0, 0);
        x.bend(5, 21, 0, 0);
        x.bend(0, 99, 0, 0);
        int[] paces = {12, 20, 60};
        int[] times = {150, 63, 99};
        for (int i = 0; i < 3; i++) {
            due("pace", x.quick(i, 0), paces[i]);
            due("time", x.quick(i, 1), times[i]);
        }
        due("what", x.quick(0, 2), -1);
        due("what", x.quick(0, -1), -1);
        due("bend", x.quick(3, 0), -1);
        due("bend", x.quick(-1, 0), -1);
        due("far", x.quick(FAR_UP, FAR_DOWN), -1);
        due("status is left", x.status(), 0);
        law(x, "fears 7; holds 3; grips 5");
        x.force(0);
        due("can't be", x.quick(0, 0), 0);
        due("can't be", x.quick(0, 1), 0);
        due("pace 1", x.quick(1, 0), 1);
        due("time", x.quick(1, 1), 1260);
        due("feared", x.quick(2, 0), 7);
        due("time, cut", x.quick(2, 1), 848);
        law(x, "fears 0");
        x.force(1);
        due("all feared", x.quick(2, 0), 0);
        due("all feared", x.quick(2, 1), 0);
    }

    private static void promise27() {
        ThreeWheels x = new ThreeWheels();
        due("no bends", x.soonest(-1), 0);
        due("no bends", x.soonest(0), -1);
        x.terms(0, 3);
        x.terms(1, 5);
        x.bend(0, 60, 0, 0);
        x.bend(-6, 60, 0, 0);
        x.bend(0, 60, 0, 0);
        x.bend(0, 60, 0, 0);
        // Round the second 10 at most: 15 ahead of it, 13 and 16 behind it.
        int[] row = {15, 10, 13, 16};
        int all = 0;
        for (int i = 0; i < 4; i++) {
            due("pace", x.soonest(i), row[i]);
            all += 3600 / row[i];
        }
        due("times", x.soonest(-1), all);
        for (int i : new int[] {-2, 4, 12, FAR_DOWN, FAR_UP}) {
            due("wrong", x.soonest(i), -1);
        }
        due("status is left", x.status(), 0);
        x.gas(1);
        due("the first: any, whatever is now", x.soonest(0), 15);
        law(x, "holds 5");
        x.force(0);
        due("can't be", x.soonest(-1), -1);
        due("can't be", x.soonest(0), -1);
        law(x, "fears 8 if camber = 0");
        x.force(1);
        due("feared", x.soonest(0), 8);
        due("feared", x.soonest(-1), 4 * 450);

        law(x, "fears 1 if turn = 0");
        x.force(2);
        int[] slow = {1, 4, 1, 1};
        for (int i = 0; i < 4; i++) {
            due("at pace 1", x.soonest(i), slow[i]);
        }
        due("at pace 1", x.soonest(-1), 3 * 3600 + 900);

        ThreeWheels cut = new ThreeWheels();
        cut.bend(0, 1, 0, 0);
        cut.bend(0, 1, 0, 0);
        // 60 by 31 is 1, and 60 by 60: the lowest of those that are as good, if the next can still be.
        due("times", cut.soonest(-1), 2);
        due("first", cut.soonest(0), 31);
        due("second", cut.soonest(1), 31);
        cut.bend(0, 99, 0, 0);
        due("times", cut.soonest(-1), 1 + 1 + 99);
        due("first", cut.soonest(0), 40);
        due("second", cut.soonest(1), 50);
        due("third", cut.soonest(2), 60);
    }

    private static void promise28() {
        ThreeWheels x = new ThreeWheels();
        due("holes of nothing", x.lanes(0), 0);
        due("changes of nothing", x.lanes(1), 0);
        due("no bend", x.lanes(2), -1);
        x.bend(0, 1, 0, 1);
        int[] one = {0, 1, 1};
        for (int i = 0; i < 3; i++) {
            due("one bend", x.lanes(i), one[i]);
        }
        x.bend(0, 1, 0, 4);
        x.bend(0, 1, 0, 3);
        // The third bend asks for lane 2, the second has a hole in every lane.
        int[] three = {1, 2, 1, 1, 2};
        for (int i = 0; i < 5; i++) {
            due("three bends", x.lanes(i), three[i]);
        }
        due("wrong", x.lanes(5), -1);
        due("wrong", x.lanes(-1), -1);
        due("wrong", x.lanes(FAR_UP), -1);
        due("wrong", x.lanes(FAR_DOWN), -1);
        due("status is left", x.status(), 0);
        x.lane(1);
        x.lane(2);
        int[] from2 = {1, 0, 2, 2, 2};
        for (int i = 0; i < 5; i++) {
            due("from lane 2", x.lanes(i), from2[i]);
        }
        ThreeWheels far = new ThreeWheels();
        far.lane(1);
        far.lane(2);
        far.bend(0, 1, 0, 28);
        int[] near = {2, 1, 1};
        for (int i = 0; i < 3; i++) {
            due("one beside at most", far.lanes(i), near[i]);
        }
        far.bend(0, 1, 0, 30);
        int[] beside = {4, 2, 1, 0};
        for (int i = 0; i < 4; i++) {
            due("then the next", far.lanes(i), beside[i]);
        }
        ThreeWheels all = new ThreeWheels();
        all.lane(1);
        for (int i = 0; i < 12; i++) {
            all.bend(0, 1, 0, 31);
        }
        due("36 holes", all.lanes(0), 36);
        due("no change", all.lanes(1), 0);
        due("the twelfth", all.lanes(13), 1);
        due("no thirteenth", all.lanes(14), -1);
    }

    private static void promise29() {
        ThreeWheels x = new ThreeWheels();
        due("no bend", x.leaning(0, 0), -1);
        x.bend(-4, 30, 0, 0);
        x.bend(5, 30, 0, 0);
        x.bend(0, 30, 0, 0);
        due("nobody", x.leaning(0, 0), 12);
        due("nobody", x.leaning(0, 1), -1);
        x.load(90, 0, 1);
        x.load(50, 1, 0);
        x.load(60, 2, 1);
        x.lean(0, 2);
        x.lean(2, -1);
        // Holds 1800 and lean: 22 asks for 1936, 23 for 2116, which is more than 2100. Grips 3400 less lean:
        // 27 asks for 3645, 28 for 3920.
        int[] left = {22, 3, 2, 3};
        int[] right = {27, 0, 2, 0};
        int[] straight = {60, 0, 2, 0};
        for (int i = 0; i < 4; i++) {
            due("left " + i, x.leaning(0, i), left[i]);
            due("right " + i, x.leaning(1, i), right[i]);
            due("straight " + i, x.leaning(2, i), straight[i]);
        }
        due("as it is", x.of(0, 3), 2);
        due("wrong", x.leaning(0, 4), -1);
        due("wrong", x.leaning(0, -1), -1);
        due("wrong", x.leaning(3, 0), -1);
        due("wrong", x.leaning(-1, 0), -1);
        due("wrong", x.leaning(FAR_UP, FAR_UP), -1);
        due("status is left", x.status(), 0);
        law(x, "fears 0");
        x.force(0);
        int[] none = {0, 0, 2, 0};
        for (int i = 0; i < 4; i++) {
            due("none", x.leaning(0, i), none[i]);
        }
        ThreeWheels six = under("fears 30; fears 40 if lean = 1000 + 113; fears 50 if lean = 1000 + 114");
        for (int weight = 1; weight <= 1000; weight *= 5) {
            six.load(Math.min(200, weight), 0, 1);
        }
        six.bend(0, 9, 0, 0);
        due("five loads, the last 200 at most", six.count(0), 5);
        six.load(200, 2, 1);
        // 1 + 5 + 25 + 125 + 200 + 200, twice at most: 1112.
        due("none of these", six.leaning(0, 0), 30);
        due("the first row", six.leaning(0, 6), 0);
        law(six, "fears 30; fears 40 if lean = 1000+112; fears 50 if lean = 1000+111; fears 45 if lean + 1000 + 112 = 0");
        six.force(1);
        int[] row = {50, 3, 4, 4, 4, 4, 4};
        for (int i = 0; i < 7; i++) {
            due("all six", six.leaning(0, i), row[i]);
        }
        law(six, "fears 30; fears 40 if lean = 1000+112");
        six.force(2);
        due("the last row", six.leaning(0, 0), 40);
        due("the last row", six.leaning(0, 6), 4);
        law(six, "fears 30; fears 40 if lean + 912 = 0");
        six.force(3);
        due("the sixth", six.leaning(0, 6), 1);
        due("the fifth", six.leaning(0, 5), 0);
        law(x, "holds 900 if lean = 0 - 30; holds 0");
        x.force(1);
        due("0 whoever leans: the last clause", x.leaning(0, 0), 0);
        law(x, "holds 0; holds 900 if lean = 0 - 30");
        x.force(2);
        int[] just = {15, 1, 2, 3};
        for (int i = 0; i < 4; i++) {
            due("just that", x.leaning(0, i), just[i]);
        }
    }

    private static void promise30() {
        ThreeWheels x = new ThreeWheels();
        due("nothing", x.putting(-1), 0);
        due("no load", x.putting(0), -1);
        x.load(80, 3, 1);
        x.load(20, 1, 0);
        due("no bends", x.putting(-1), 0);
        due("first spots", x.putting(0), 0);
        x.bend(-4, 90, 0, 0);
        x.bend(4, 90, 0, 0);
        // In the chair 80: left 23, right 23; 20: 15 and 26; both: 25 and 22; none: 12 and 27.
        due("times", x.putting(-1), 5400 / 25 + 5400 / 22);
        due("first", x.putting(0), 2);
        due("second", x.putting(1), 2);
        due("wrong", x.putting(2), -1);
        due("wrong", x.putting(-2), -1);
        due("wrong", x.putting(FAR_UP), -1);
        due("wrong", x.putting(FAR_DOWN), -1);
        due("as it is", x.of(0, 1), 3);
        due("status is left", x.status(), 0);
        law(x, "bans if weight = 80 and spot = 2; bans if weight = 20 and spot > 1; bans if spot = 0");
        x.force(0);
        due("times", x.putting(-1), 5400 / 23 + 5400 / 23);
        due("its nose", x.putting(0), 3);
        due("behind", x.putting(1), 1);
        x.gas(1);
        due("as it rides, too", x.putting(0), 3);
        law(x, "bans if weight = 20");
        x.force(1);
        due("can't be", x.putting(-1), -1);
        due("can't be", x.putting(0), -1);
        law(x, "holds chair*5");
        x.force(2);
        due("times", x.putting(-1), 5400 / 11 + 5400 / 22);
        due("both", x.putting(0), 2);
        due("both", x.putting(1), 2);
        law(x, "holds chair/50");
        x.force(3);
        due("no pace round the first", x.putting(-1), -1);
        due("no pace round the first", x.putting(1), -1);
    }

    private static void promise31() {
        ThreeWheels x = new ThreeWheels();
        due("the lowest", x.setting(0), 0);
        due("nothing", x.setting(1), 0);
        due("wrong", x.setting(2), -1);
        due("wrong", x.setting(-1), -1);
        due("wrong", x.setting(FAR_UP), -1);
        x.bend(1, 10, 1, 0);
        due("bars", x.setting(0), 14);
        due("pulls", x.setting(1), 0);
        x.bend(1, 10, -1, 0);
        due("the lowest of those as good", x.setting(0), 4);
        due("pulls", x.setting(1), 100);
        x.bend(1, 11, 0, 0);
        due("by long", x.setting(0), 9);
        due("pulls", x.setting(1), 100);
        due("as they are", x.count(17), 9);
        x.bars(7);
        due("whatever is now", x.setting(0), 9);
        x.load(200, 2, 0);
        due("the chair", x.setting(0), 18);
        due("pulls", x.setting(1), 10 * 6 + 10 * 4 + 11);
        due("status is left", x.status(), 0);
        law(x, "pulls bars*bars-50");
        x.force(0);
        due("by law", x.setting(0), 2);
        due("by law", x.setting(1), 31);
    }

    private static void promise32() {
        ThreeWheels x = new ThreeWheels();
        due("no bends", x.learning(), -1);
        x.bend(9, 9, 0, 0);
        due("never", x.learning(), -1);
        x.bend(0, 30, 0, 0);
        due("three a time", x.learning(), 34);
        x.bend(0, 99, 0, 0);
        due("twelve a time", x.learning(), 9);
        x.gas(10);
        x.ride();
        x.ride();
        x.ride();
        due("skill", x.count(16), 12);
        due("88 are left", x.learning(), 8);
        x.ride();
        due("from the first bend on, wherever one is", x.learning(), 8);
        due("status is left", x.status(), 0);
        law(x, "learns 0; learns 1 if long = 99 and skill < 99");
        x.force(0);
        due("stuck", x.learning(), -1);
        law(x, "learns 0; learns 1 if long = 99");
        x.force(1);
        due("one a time", x.learning(), 88);
        law(x, "learns 1+skill/4");
        x.force(2);
        due("as it grows", x.learning(), 3);
        law(x, "learns 100");
        x.force(3);
        due("at once", x.learning(), 1);
        x.ride();
        due("100", x.count(16), 100);
        due("none is needed", x.learning(), 0);
        x.clear();
        due("no bends", x.learning(), -1);
    }

    private static void promise33() {
        ThreeWheels x = new ThreeWheels();
        due("no bend", x.sight(0, 1, 1), -2);
        due("status", x.status(), -2);
        x.bend(1, 1, 1, 1);
        for (int pace : new int[] {0, -1, 61, FAR_DOWN, FAR_UP}) {
            due("wrong", x.sight(0, pace, 0), -1);
            due("-1 ahead of -2", x.sight(7, pace, 0), -1);
        }
        for (int well : new int[] {-1, 2, FAR_UP}) {
            due("wrong", x.sight(0, 1, well), -1);
        }
        for (int bend : new int[] {-1, 1, 12, FAR_DOWN, FAR_UP}) {
            due("no such", x.sight(bend, 1, 1), -2);
        }
        due("none came", x.count(2), 0);
        for (int i = 1; i <= 8; i++) {
            due("sight", x.sight(0, i == 8 ? 60 : i, i % 2), i);
            due("status", x.status(), 0);
        }
        due("no room", x.sight(0, 1, 1), -5);
        due("status", x.status(), -5);
        due("-2 ahead of -5", x.sight(1, 1, 1), -2);
        due("-1 ahead of -5", x.sight(0, 0, 1), -1);
        due("eight", x.count(2), 8);
    }

    private static void promise34() {
        ThreeWheels x = new ThreeWheels();
        due("none", x.forget(), 0);
        x.bend(1, 1, 1, 1);
        x.sight(0, 60, 1);
        x.sight(0, 60, 1);
        due("none can be so", x.aboard(-1), 0);
        x.gas(0);
        due("two", x.forget(), 2);
        due("status is left", x.status(), -1);
        due("none", x.count(2), 0);
        due("again", x.forget(), 0);
        due("all sets", x.aboard(-1), 1);
        due("a new one", x.sight(0, 1, 1), 1);
    }

    private static void promise35() {
        ThreeWheels x = new ThreeWheels();
        due("one set of nobody", x.aboard(-1), 1);
        due("it", x.aboard(0), 0);
        due("no other", x.aboard(1), -1);
        x.load(40, 2, 1);
        x.load(20, 0, 0);
        x.load(25, 3, 0);
        x.bend(-1, 1, 0, 0);
        x.bend(1, 1, 0, 0);
        due("all", x.aboard(-1), 8);
        for (int i = 0; i < 8; i++) {
            due("all", x.aboard(i), i);
        }
        // 35 asks for 1225: 600 and 20 times 31.25 in the chair.
        x.sight(0, 35, 1);
        int[] chair = {1, 3, 5, 7};
        due("how many", x.aboard(-1), 4);
        for (int i = 0; i < 4; i++) {
            due("with the first", x.aboard(i), chair[i]);
        }
        due("no more", x.aboard(4), -1);
        x.lean(0, -2);
        // All with a lean of 80 the other way: 1320, with the third 1820.
        x.sight(0, 40, 0);
        due("without the third", x.aboard(-1), 2);
        x.sight(1, 46, 1);
        due("grips 2200 and 80", x.aboard(-1), 1);
        due("it", x.aboard(0), 3);
        due("wrong", x.aboard(1), -1);
        due("wrong", x.aboard(-2), -1);
        due("wrong", x.aboard(FAR_UP), -1);
        due("wrong", x.aboard(FAR_DOWN), -1);
        due("status is left", x.status(), 0);
        x.sight(0, 1, 0);
        due("none", x.aboard(-1), 0);
        due("none", x.aboard(0), -1);
        x.forget();
        x.put(0, 0);
        x.sight(0, 35, 1);
        due("spots as they are", x.aboard(-1), 0);
        law(x, "holds bars * 9");
        x.force(0);
        x.bars(9);
        x.forget();
        x.sight(0, 9, 1);
        due("bars as they are", x.aboard(-1), 8);
        x.bars(8);
        due("bars as they are", x.aboard(-1), 0);
    }

    private static void promise36() {
        ThreeWheels x = new ThreeWheels();
        for (int n : new int[] {0, -1, 101, FAR_DOWN, FAR_UP}) {
            due("wrong", x.days(5, n), -1);
        }
        for (int seed : new int[] {-1, 1000001, FAR_DOWN, FAR_UP}) {
            due("wrong", x.days(seed, 5), -1);
        }
        due("-1 ahead of -3", x.status(), -1);
        due("no bends", x.days(5, 5), -3);
        due("status", x.status(), -3);
        due("not kept", x.drawn(0), -1);
        x.bend(0, 25, 0, 0);
        x.bend(-5, 10, 0, 0);
        x.gas(10);
        x.ride();
        // From bend 1 on at pace 10: s is 12345, 628841, 621889, the draws are 7, 6, 29, the paces 1, 1, 10.
        due("days", x.days(0, 3), 3);
        due("status", x.status(), 0);
        due("at", x.drawn(0), 0);
        due("pace", x.drawn(1), paceBehind(10, 0, 3));
        due("hedges", x.drawn(2), 0);
        due("skill", x.drawn(3), 2 + 1 + 2 + 1);
        due("pace is left", x.count(13), 10);
        due("at is left", x.count(12), 1);
        due("skill is left", x.count(16), 2);
        due("hedges are left", x.count(15), 0);
        due("undo is left", x.count(4), 2);
        due("seed 1000000, 100 bends", x.days(1000000, 100) + x.drawn(2), 100);
        x.terms(0, 60);
        x.terms(1, 1);
        due("into the hedge", x.days(3, 100) + x.drawn(2), 100);
        due("some", x.drawn(2) > 0 ? 1 : 0, 1);
        due("skill", x.drawn(3), 100);
    }

    /** The pace behind n draws with gas 10 and brake 20 where all goes well. */
    private static int paceBehind(int pace, long s, int n) {
        for (int i = 0; i < n; i++) {
            s = (s * 1103 + 12345) % 1000003;
            pace = (int) Math.max(1, Math.min(60, pace + s % 31 - 20));
        }
        return pace;
    }

    private static void promise37() {
        ThreeWheels x = new ThreeWheels();
        for (int i = 0; i < 4; i++) {
            due("ahead of any", x.drawn(i), -1);
        }
        x.bend(9, 55, 0, 0);
        x.terms(0, 60);
        x.terms(1, 1);
        x.gas(60);
        due("into the hedge from 60", x.days(1, 1), 0);
        int[] one = {0, 0, 1, 0};
        for (int i = 0; i < 4; i++) {
            due("drawn " + i, x.drawn(i), one[i]);
        }
        due("wrong", x.drawn(4), -1);
        due("wrong", x.drawn(-1), -1);
        due("wrong", x.drawn(FAR_UP), -1);
        x.ride();
        due("hedges", x.count(15), 1);
        x.bend(0, 55, 0, 0);
        x.bend(0, 10, 0, 0);
        x.clear();
        x.bend(0, 55, 0, 0);
        x.bend(0, 10, 0, 0);
        due("well", x.days(9, 1), 1);
        due("hedges in them alone", x.drawn(2), 0);
        due("at", x.drawn(0), 1);
        due("skill", x.drawn(3), 5);
        x.days(9, 0);
        due("a refused one leaves them", x.drawn(3), 5);
        x.image(0);
        x.days(9, 2);
        x.back(0);
        due("images do not keep them", x.drawn(3), 6);
        x.clear();
        due("kept as the latest", x.drawn(3), 6);
    }

    private static void promise38() {
        ThreeWheels x = new ThreeWheels();
        for (int k : new int[] {-1, 2, FAR_DOWN, FAR_UP}) {
            due("wrong", x.image(k), -1);
            due("status", x.status(), -1);
        }
        due("first", x.image(0), 0);
        due("status", x.status(), 0);
        due("second", x.image(1), 0);
        x.bars(5);
        due("again", x.image(1), 0);
        x.back(0);
        due("the first as it was", x.count(17), 9);
        x.back(1);
        due("the second as it was then", x.count(17), 14);
        x.gas(1);
        x.image(0);
        due("leaves what can be undone", x.count(4), 1);
    }

    private static void promise39() {
        ThreeWheels x = new ThreeWheels();
        for (int k : new int[] {-1, 2, FAR_DOWN, FAR_UP}) {
            due("wrong", x.back(k), -1);
            due("status", x.status(), -1);
        }
        due("not kept", x.back(0), -2);
        due("status", x.status(), -2);
        x.load(50, 1, 1);
        x.bend(3, 40, 1, 5);
        x.bend(0, 50, 0, 0);
        x.sight(1, 9, 1);
        law(x, "holds 5");
        x.force(0);
        x.bars(2);
        x.terms(0, 7);
        x.terms(1, 8);
        x.terms(2, 9);
        x.lane(1);
        x.gas(7);
        x.lean(0, 1);
        x.ride();
        x.image(1);
        int[] all = new int[21];
        for (int i = 0; i < 21; i++) {
            all[i] = x.count(i);
        }
        x.ride();
        x.gas(7);
        x.lean(0, -2);
        x.brake(8);
        x.brake(8);
        x.put(0, 3);
        x.lane(2);
        x.load(1, 1, 0);
        law(x, "holds 6; grips 7");
        x.force(1);
        x.bars(0);
        x.terms(0, 1);
        x.terms(1, 1);
        x.terms(2, 1);
        x.clear();
        x.bend(-5, 2, -1, 7);
        x.sight(0, 1, 0);
        x.gas(0);
        x.feed(1, 2, 3, 4, 5);
        due("back", x.back(1), 0);
        due("status", x.status(), 0);
        all[4] = 0;
        all[5] = 20;
        all[6]++;
        for (int i = 0; i < 21; i++) {
            due("count(" + i + ")", x.count(i), all[i]);
        }
        int[] bend = {3, 40, 1, 5, 5, 2000 + 500 - 50, 60, 5 - 2, 4};
        for (int i = 0; i < 9; i++) {
            due("at(0, " + i + ")", x.at(0, i), bend[i]);
        }
        int[] load = {50, 1, 1, 1};
        for (int i = 0; i < 4; i++) {
            due("of(0, " + i + ")", x.of(0, i), load[i]);
        }
        due("sights", x.aboard(-1), 2);
        due("undo", x.undo(), -3);
        x.end(0);
        due("another law in the place of the one that is gone", law(x, "holds 8"), 1);
        x.force(1);
        due("of its own", x.at(0, 4), 8);
        due("images stay", x.back(1), 0);
        due("as it was", x.at(0, 4), 5);
        due("the other", x.back(0), -2);
    }

    private static void promise40() {
        ThreeWheels x = new ThreeWheels();
        for (int what : new int[] {-1, 21, FAR_DOWN, FAR_UP}) {
            due("none", x.count(what), -1);
        }
        x.load(5, 0, 1);
        x.load(5, 0, 1);
        x.bend(0, 10, 0, 0);
        x.bend(9, 10, 0, 0);
        x.bend(0, 10, 0, 0);
        x.sight(0, 1, 1);
        law(x, "bans if spot = 3");
        law(x, "bans if spot = 3");
        x.force(1);
        x.feed(0, 0, 0, 0, 0);
        x.end(13);
        x.lane(1);
        x.gas(10);
        x.ride();
        x.gas(10);
        x.ride();
        x.gas(6);
        x.bars(-4);
        x.terms(0, 11);
        x.terms(1, 21);
        x.terms(2, 3);
        for (int i = 0; i < 2; i++) {
            x.gas(0);
        }
        for (int i = 0; i < 3; i++) {
            x.force(7);
        }
        for (int i = 0; i < 4; i++) {
            x.put(0, 1);
        }
        x.image(0);
        int[] all = {2, 3, 1, 2, 6, 13, 2, 3, 4, 0, 0, 1, 2, 6, 1, 1, 1, 5, 11, 21, 3};
        for (int i = 0; i < all.length; i++) {
            due("count(" + i + ")", x.count(i), all[i]);
        }
        x.end(0);
        x.orders();
        x.law();
        x.row();
        due("-6 of each", x.count(10), 3);
        for (int i = 0; i < 8; i++) {
            x.load(0, 0, 0);
        }
        due("-5", x.count(9), 4);
        due("refused by none of others", x.count(6) + x.count(7) + x.count(8), 9);
        x.back(0);
        due("images do not keep that", x.count(9), 4);
        x.end(-1);
        x.feed(0, 0, 0, 0, 0);
        x.of(9, 9);
        x.quick(99, 0);
        due("these are not refused", x.count(6), 2);
        due("status", x.status(), 0);
    }

    private static void promise41() {
        ThreeWheels x = new ThreeWheels();
        due("ahead of any", x.status(), 0);
        x.gas(0);
        due("-1", x.status(), -1);
        // None of these is among the calls that it tells of.
        x.of(0, 0);
        x.at(0, 0);
        x.feed(0, 0, 0, 0, 0);
        x.end(0);
        x.mud();
        x.fault();
        x.stopped();
        x.goes(0, 1);
        x.quick(0, 0);
        x.soonest(0);
        x.lanes(0);
        x.leaning(0, 0);
        x.putting(0);
        x.setting(0);
        x.learning();
        x.forget();
        x.aboard(0);
        x.drawn(0);
        x.count(0);
        x.status();
        due("still", x.status(), -1);
        x.force(0);
        due("force", x.status(), -2);
        x.force(-1);
        due("force that answers NONE", x.status(), 0);
        x.row();
        due("row", x.status(), -6);
        x.bars(0);
        due("bars", x.status(), 0);
        x.clear();
        due("clear", x.status(), -3);
        x.terms(0, 5);
        due("terms", x.status(), 0);
        x.law();
        due("law", x.status(), -6);
        x.image(0);
        due("image", x.status(), 0);
        x.orders();
        due("orders", x.status(), -6);
        x.back(0);
        due("back", x.status(), 0);
        x.brake(0);
        due("brake", x.status(), -1);
        x.lane(1);
        due("lane", x.status(), 0);
        x.put(0, 0);
        due("put", x.status(), -2);
        x.load(0, 0, 1);
        due("load", x.status(), 0);
        x.lean(0, 5);
        due("lean", x.status(), -1);
        x.bend(0, 1, 0, 0);
        due("bend", x.status(), 0);
        x.ride();
        due("ride", x.status(), -3);
        x.gas(1);
        due("gas", x.status(), 0);
        x.sight(0, 0, 0);
        due("sight", x.status(), -1);
        x.undo();
        due("undo", x.status(), 0);
        x.days(-1, 1);
        due("days", x.status(), -1);
        x.sight(0, 1, 1);
        due("sight", x.status(), 0);
        due("orders", orders(x, "ride"), -3);
        due("orders", x.status(), -3);
        x.days(1, 1);
        due("days", x.status(), 0);
        for (int i = 0; i < 6; i++) {
            law(x, "bans");
        }
        due("law", x.status(), 0);
        x.law();
        due("law", x.status(), -5);
    }

    /** What is broken, and what is asked. */
    private static void sumsAndTests() {
        promise = "sums and tests";
        String[] so = {"1<2", "2>1", "2=2", "not 1>2", "1+2*3=7", "[1+2]*3=9", "7/2=3", "[0-7]/2=0-3", "[0-7]%3=0-1", "7%[0-3]=1",
            "10-3-2=5", "100/10/5=2", "2*7%4=2", "1=2 or 1=1", "1=1 or 1/0=1", "not (1=2 and 1/0=1)", "1=1 or 1=1 and 1=2",
            "not 1=2 and 1=1", "not (1=1 and 1=2)", "not not 1=1", "1000*1000*1000=1000*1000*1000",
            "0-1000*1000*1000<0", "(1=2 or 1=1) and 1=1", "1=1 or 1=2 and 1/0=1", "1=2 and 1/0=1 or 1=1", "0/5=0", "0%5=0",
            "1000*1000*[1000-1]+1000*1000>1", "1=1 or (1/0=1 and 1%0=1)", "1=2 or 1=2 or 1=1 or 1/0=1"};
        String[] notSo = {"1>2", "2<1", "1=2", "2<2", "2>2", "not 1=1", "1/0=1", "not 1/0=1", "1%0=0", "1/0=1 or 1=1", "1=1 and 1/0=1",
            "1=2 and 1=1 or 1=2", "1000*1000*1000+1>0", "0-1000*1000*1000-1<0", "1000*1000*1000*2/2=1000*1000*1000",
            "1=1 and (1=2 or 1/0=1)", "not (1=2 or 1/0=1)", "1=2 or 1=2 and 1=1", "[1/0]*0=0", "1000*1000*1000*1000>0"};
        for (String test : so) {
            ThreeWheels x = under("holds 77 if " + test);
            x.bend(1, 1, 0, 0);
            due(test, x.at(0, 4), 77);
        }
        for (String test : notSo) {
            ThreeWheels x = under("holds 77 if " + test);
            x.bend(1, 1, 0, 0);
            due(test, x.at(0, 4), 600);
        }
        String[] sums = {"7", "1+2", "9-2", "3*4", "22/7", "22%7", "[1+2]*[3+4]", "0-5+9", "1000*1000/1000/10", "turn+turn*turn"};
        int[] values = {7, 3, 7, 12, 3, 1, 21, 4, 100, 6};
        for (int i = 0; i < sums.length; i++) {
            ThreeWheels x = under("holds " + sums[i]);
            x.bend(2, 1, 0, 0);
            due(sums[i], x.at(0, 4), values[i]);
        }
    }

    /** Far numbers everywhere, in an empty object and in a full one: each call comes back. */
    private static void farNumbers() {
        promise = "far numbers";
        int[] far = {FAR_DOWN, -1001, -2, -1, 0, 1, 2, 7, 12, 13, 400, 1000, FAR_UP};
        for (int full = 0; full < 2; full++) {
            for (int a : far) {
                for (int b : far) {
                    // Some 150 calls at most: what an object answers behind its 512th is free.
                    ThreeWheels x = full == 1 ? fullOne() : new ThreeWheels();
                    allCalls(x, a, b);
                    allCalls(x, b, a);
                    due("twelve bends at most", x.count(1) <= 12 ? 1 : 0, 1);
                }
            }
        }
    }

    private static ThreeWheels fullOne() {
        ThreeWheels x = new ThreeWheels();
        for (int i = 0; i < 6; i++) {
            x.load(30 * i, i % 4, (i + 1) % 2);
            law(x, "holds 900+lean*" + i + "; grips rest*" + i + "; bans if spot=" + i + "; learns " + i);
        }
        for (int i = 0; i < 12; i++) {
            x.bend(i - 5, 8 * i + 1, i % 7 - 3, i * 2);
        }
        for (int i = 0; i < 8; i++) {
            x.sight(i, 20, i % 2);
        }
        x.force(3);
        x.gas(10);
        x.image(0);
        return x;
    }

    private static void allCalls(ThreeWheels x, int a, int b) {
        x.load(a, b, b);
        x.of(a, b);
        x.bend(a, b, a, b);
        x.at(a, b);
        x.bars(a);
        x.terms(a, b);
        x.feed(a, b, a, b, a);
        x.end(b);
        x.row();
        x.feed(a, b, a, b, a);
        x.law();
        x.feed(a, b, a, b, a);
        x.orders();
        x.force(a);
        x.gas(a);
        x.brake(b);
        x.lane(a);
        x.put(a, b);
        x.lean(a, b);
        x.ride();
        x.undo();
        x.goes(a, b);
        x.quick(a, b);
        x.soonest(a);
        x.lanes(a);
        x.leaning(a, b);
        x.putting(a);
        x.setting(a);
        x.learning();
        x.sight(a, b, 1);
        x.aboard(a);
        x.days(a, b);
        x.drawn(a);
        x.image(a);
        x.back(a);
        x.count(a);
    }

    public static void main(String[] args) {
        Runnable[] all = {PromisesTest::promise1, PromisesTest::promise2, PromisesTest::promise3, PromisesTest::promise4,
            PromisesTest::promise5, PromisesTest::promise6, PromisesTest::promise7, PromisesTest::promise8,
            PromisesTest::promise9, PromisesTest::promise10, PromisesTest::promise11, PromisesTest::promise12,
            PromisesTest::promise13, PromisesTest::promise14, PromisesTest::promise15, PromisesTest::promise16,
            PromisesTest::promise17, PromisesTest::promise18, PromisesTest::promise19, PromisesTest::promise20,
            PromisesTest::promise21, PromisesTest::promise22, PromisesTest::promise23, PromisesTest::promise24,
            PromisesTest::promise25, PromisesTest::promise26, PromisesTest::promise27, PromisesTest::promise28,
            PromisesTest::promise29, PromisesTest::promise30, PromisesTest::promise31, PromisesTest::promise32,
            PromisesTest::promise33, PromisesTest::promise34, PromisesTest::promise35, PromisesTest::promise36,
            PromisesTest::promise37, PromisesTest::promise38, PromisesTest::promise39, PromisesTest::promise40,
            PromisesTest::promise41};
        for (int i = 0; i < all.length; i++) {
            promise = "promise " + (i + 1);
            all[i].run();
        }
        sumsAndTests();
        farNumbers();
        Check.finish("PromisesTest");
    }
}
