/** The edges that the promises name, sentence by sentence. */
public final class EdgesOfPromisesTest {
    private static final int NONE = ThreeWheels.NONE;
    private static final int NOTHING = ThreeWheels.NOTHING;
    private static final int[] FAR = {Edges.FAR_DOWN, Edges.FAR_UP};
    private static String place = "";

    private EdgesOfPromisesTest() {
    }

    private static void says(int promise, String words) {
        place = "Promise " + promise;
        Edges.says(place, words);
    }

    private static void due(String call, long got, long want) {
        Edges.due(call, got, want);
    }

    /** What the questions answer, from that number on; nothing is changed by them. */
    private static void asks(Edges.Made made, String call, int from, Edges.CallWith asked, int... wants) {
        for (int i = 0; i < wants.length; i++) {
            int number = from + i;
            Edges.asks(made, call + "(" + number + ")", x -> asked.on(x, number), wants[i]);
        }
    }

    private static ThreeWheels textOn(ThreeWheels x, String text) {
        Check.write(x, text);
        return x;
    }

    private static ThreeWheels bend(String law, int turn, int length) {
        ThreeWheels x = Edges.under(law);
        x.bend(turn, length, 0, 0);
        return x;
    }

    private static void use() {
        Edges.says("What it is", "An object is used for at most 512 calls after it has been made; what later calls answer is free.");
        ThreeWheels x = new ThreeWheels();
        due("1st", x.load(1, 0, 1), 0);
        due("2nd", x.bend(0, 1, 0, 0), 0);
        for (int call = 3; call <= 510; call += 2) {
            due(call + "th", x.gas(1), Math.min(60, call / 2));
            due(call + 1 + "th", x.ride(), 0);
        }
        due("511th", x.gas(10), 60);
        due("512th", x.count(4), 16);
        ThreeWheels laws = new ThreeWheels();
        laws.image(0);
        int calls = 1;
        for (int i = 0; calls + 6 <= 512; i = (i + 1) % 6) {
            if (i == 0) {
                laws.back(0);
                calls++;
            }
            due("law behind " + calls, Check.law(laws, "bans if 1=2 and 1=1"), i);
            calls += 4;
        }
    }

    private static void promise1() {
        says(1, "An empty car on no road.");
        int[] all = {0, 0, 0, 0, 0, 0, 0, 0, 0, 0, 0, -1, 0, 0, 0, 0, 0, 9, 10, 20, 0, -1};
        asks(Edges::fresh, "count", 0, ThreeWheels::count, all);
        int[] none = {x(ThreeWheels::status), x(ThreeWheels::mud), x(y -> y.fault() + 1), x(y -> y.stopped() + 1), x(y -> y.drawn(0) + 1),
            x(ThreeWheels::forget), x(y -> y.of(0, 0) - NOTHING), x(y -> y.at(0, 0) - NOTHING), x(y -> y.aboard(0)), x(y -> y.aboard(-1) - 1)};
        for (int i = 0; i < none.length; i++) {
            due("question " + i, none[i], 0);
        }
        ThreeWheels one = new ThreeWheels();
        ThreeWheels other = Edges.full();
        due("apart from others", one.count(0) + other.count(0), 6);
        Edges.same("apart from others", one, new ThreeWheels());
    }

    private static int x(Edges.Call asked) {
        return asked.on(new ThreeWheels());
    }

    private static void promise2() {
        says(2, "A LOAD: the number.");
        ThreeWheels x = new ThreeWheels();
        for (int i = 0; i < 6; i++) {
            due("load", x.load(40 * i, 3 - i % 4, i % 2), i);
            due("status", x.status(), 0);
            due("weight", x.of(i, 0), 40 * i);
            due("spot", x.of(i, 1), 3 - i % 4);
            due("alive", x.of(i, 2), i % 2);
            due("lean", x.of(i, 3), 0);
        }
        ThreeWheels rides = Edges.riding();
        due("as it rides", rides.load(9, 1, 0), 3);
        due("the ones ahead stay", rides.of(0, 3), 1);
        says(2, "-1;");
        Edges.within(Edges::standing, "weight", 0, 200, (y, v) -> y.load(v, 0, 0));
        Edges.within(Edges::standing, "alive", 0, 1, (y, v) -> y.load(1, 0, v));
        for (int spot : new int[] {-1, 4, Edges.FAR_UP, Edges.FAR_DOWN}) {
            Edges.refused(Edges::standing, "spot " + spot, y -> y.load(1, spot, 0), -1);
        }
        says(2, "-3 BARRED;");
        Edges.refused(Edges::standing, "spot 3", y -> y.load(1, 3, 0), -3);
        Edges.refused(Edges::riding, "spot 3 as it rides", y -> y.load(1, 3, 0), -3);
        Edges.refused(() -> Edges.force(Edges.standing(), "bans if weight > 100"), "101", y -> y.load(101, 0, 0), -3);
        due("100", Edges.force(Edges.standing(), "bans if weight > 100").load(100, 0, 0), 3);
        Edges.refused(() -> Edges.force(Edges.standing(), "bans if alive = 1"), "an alive one", y -> y.load(1, 0, 1), -3);
        due("one that is not", Edges.force(Edges.standing(), "bans if alive = 1").load(1, 0, 0), 3);
        Edges.refused(() -> Edges.force(Edges.fresh(), "bans"), "any", y -> y.load(0, 0, 0), -3);
        due("-3 ahead of -5", Edges.full().load(1, 3, 0), -3);
        says(2, "-5.");
        Edges.refused(Edges::full, "a seventh", y -> y.load(1, 0, 0), -5);
        due("-1 ahead of -5", Edges.full().load(201, 0, 0), -1);
    }

    private static void promise3() {
        says(3, "Of a LOAD WEIGHT (what 0), SPOT (1), ALIVE (2: 1, 0), LEAN (3),");
        asks(Edges::standing, "of 0: ", 0, (y, i) -> y.of(0, i), 80, 0, 1, 1);
        asks(Edges::standing, "of 1: ", 0, (y, i) -> y.of(1, i), 40, 2, 0, 0);
        asks(Edges::full, "of 5: ", 0, (y, i) -> y.of(5, i), 110, 2, 0, 0);
        ThreeWheels x = Edges.standing();
        x.lean(0, -2);
        due("lean -2", x.of(0, 3), -2);
        x.lean(0, -1);
        due("lean -1", x.of(0, 3), -1);
        says(3, "whether BARRED on a SPOT (4 + SPOT: 1, 0).");
        asks(Edges::standing, "of 0: ", 4, (y, i) -> y.of(0, i), 0, 0, 0, 1);
        asks(Edges::riding, "as it rides, of 2: ", 4, (y, i) -> y.of(2, i), 0, 0, 0, 1);
        asks(() -> Edges.force(Edges.standing(), "bans if weight = 80 and spot < 1 or alive = 0 and spot = 1"), "of 0: ", 4, (y, i) -> y.of(0, i), 1, 0,
            0, 0);
        asks(() -> Edges.force(Edges.standing(), "bans if weight = 80 and spot < 1 or alive = 0 and spot = 1"), "of 1: ", 4, (y, i) -> y.of(1, i), 0, 1,
            0, 0);
        asks(() -> Edges.force(Edges.standing(), "bans"), "of 0: ", 4, (y, i) -> y.of(0, i), 1, 1, 1, 1);
        ThreeWheels none = Edges.standing();
        none.force(NONE);
        due("by no law", none.of(0, 7), 0);
        says(3, "NOTHING.");
        for (int what : new int[] {-1, 8, Edges.FAR_UP, Edges.FAR_DOWN}) {
            Edges.asks(Edges::standing, "what " + what, y -> y.of(0, what), NOTHING);
        }
        for (int load : new int[] {-1, 3, 6, Edges.FAR_UP, Edges.FAR_DOWN}) {
            Edges.asks(Edges::standing, "load " + load, y -> y.of(load, 0), NOTHING);
            Edges.asks(Edges::standing, "load " + load, y -> y.of(load, 4), NOTHING);
        }
        due("a seventh", Edges.full().of(6, 0), NOTHING);
        due("none at all", Edges.fresh().of(0, 0), NOTHING);
    }

    private static void promise4() {
        says(4, "A BEND, behind all: its number.");
        ThreeWheels x = new ThreeWheels();
        for (int i = 0; i < 12; i++) {
            due("bend", x.bend(i - 9, 99 - i, i % 7 - 3, 31 - i), i);
            due("status", x.status(), 0);
            due("turn", x.at(i, 0), i - 9);
            due("length", x.at(i, 1), 99 - i);
            due("camber", x.at(i, 2), i % 7 - 3);
            due("holes", x.at(i, 3), 31 - i);
        }
        ThreeWheels rides = Edges.riding();
        due("as it rides", rides.bend(0, 1, 0, 0), 4);
        due("at stays", rides.count(12), 2);
        due("sights stay", rides.count(2), 2);
        says(4, "-1;");
        Edges.within(Edges::standing, "turn", -9, 9, (y, v) -> y.bend(v, 1, 0, 0));
        Edges.within(Edges::standing, "length", 1, 99, (y, v) -> y.bend(0, v, 0, 0));
        Edges.within(Edges::standing, "camber", -3, 3, (y, v) -> y.bend(0, 1, v, 0));
        Edges.within(Edges::standing, "holes", 0, 31, (y, v) -> y.bend(0, 1, 0, v));
        says(4, "-5.");
        Edges.refused(Edges::full, "a thirteenth", y -> y.bend(0, 1, 0, 0), -5);
        due("-1 ahead of -5", Edges.full().bend(0, 100, 0, 0), -1);
    }

    private static void promise5() {
        says(5, "The ROAD is empty then (AT 0, SIGHTS none):");
        ThreeWheels x = Edges.riding();
        x.clear();
        due("status", x.status(), 0);
        due("bends", x.count(1), 0);
        due("bend 0", x.at(0, 0), NOTHING);
        due("at", x.count(12), 0);
        due("sights", x.count(2), 0);
        int[] left = {3, 0, 0, 2, 0, 20};
        int[] state = {0, 0, 7, 1, 1, 3, 12, 12, 25, 4};
        for (int i = 0; i < 6; i++) {
            due("count(" + i + ")", x.count(i), left[i]);
        }
        for (int i = 0; i < 10; i++) {
            due("count(" + (11 + i) + ")", x.count(11 + i), state[i]);
        }
        due("a new road", x.bend(3, 7, 2, 1), 0);
        due("of its own", x.at(0, 1), 7);
        due("nothing seen on it", x.forget(), 0);
        says(5, "how many BENDS it had.");
        due("four", Edges.standing().clear(), 4);
        due("twelve", Edges.full().clear(), 12);
        due("one", bend("bans", 0, 1).clear(), 1);
        says(5, "-3 none.");
        Edges.refused(Edges::fresh, "clear()", ThreeWheels::clear, -3);
        Edges.refused(EdgesOfPromisesTest::cleared, "clear() again", ThreeWheels::clear, -3);
    }

    private static ThreeWheels cleared() {
        ThreeWheels x = Edges.standing();
        x.clear();
        x.gas(3);
        x.lane(2);
        return x;
    }

    private static void promise6() {
        says(6, "Of a BEND TURN (what 0), LONG (1), CAMBER (2), HOLES (3), what it HOLDS (4), GRIPS (5), is FEARED above (6), PULLS (7), LEARNS (8).");
        // 80 alive with lean 1 and 30 at rest, 40 in the chair, bars 3.
        asks(Edges::standing, "at 0: ", 0, (y, i) -> y.at(0, i), -4, 30, 1, 5, 980, 3020, 60, 5 + 2 - 3, 3);
        asks(Edges::riding, "at 3: ", 0, (y, i) -> y.at(3, i), 9, 40, 0, 31, 980, 3020, 60, 2 - 3, 3);
        asks(() -> Edges.force(Edges.standing(), "fears 10+turn; pulls camber; grips long"), "at 1: ", 0, (y, i) -> y.at(1, i), 5, 20, -1, 16,
            600 + 800 + 80, 20, 15, -1, 2);
        asks(Edges::full, "at 11: ", 0, (y, i) -> y.at(11, i), 6, 21, 1, 22, 600 + 20 * (50 + 110), 2000 + 10 * (10 + 30 + 70 + 90), 60, 5 + 8 - 1, 2);
        says(6, "NOTHING.");
        for (int what : new int[] {-1, 9, Edges.FAR_UP, Edges.FAR_DOWN}) {
            Edges.asks(Edges::standing, "what " + what, y -> y.at(0, what), NOTHING);
        }
        for (int bend : new int[] {-1, 4, 12, Edges.FAR_UP, Edges.FAR_DOWN}) {
            Edges.asks(Edges::standing, "bend " + bend, y -> y.at(bend, 0), NOTHING);
            Edges.asks(Edges::standing, "bend " + bend, y -> y.at(bend, 4), NOTHING);
        }
        due("a thirteenth", Edges.full().at(12, 0), NOTHING);
        due("none at all", Edges.fresh().at(0, 0), NOTHING);
        due("cleared", cleared().at(0, 0), NOTHING);
    }

    private static void promise7() {
        says(7, "BARS: what they were, and 9.");
        ThreeWheels x = new ThreeWheels();
        int[] bars = {-9, 9, 0, -1, -9};
        int was = 0;
        for (int value : bars) {
            due("bars(" + value + ")", x.bars(value), was + 9);
            due("status", x.status(), 0);
            due("bars", x.count(17), value + 9);
            was = value;
        }
        ThreeWheels rides = Edges.riding();
        due("as it rides", rides.bars(4), 12);
        due("can't be undone", rides.count(4), 9);
        says(7, "-1.");
        Edges.within(Edges::standing, "bars", -9, 9, ThreeWheels::bars);
    }

    private static void promise8() {
        says(8, "A TERM: what it was.");
        ThreeWheels x = new ThreeWheels();
        int[][] terms = {{0, 1, 10}, {0, 60, 1}, {0, 5, 60}, {1, 60, 20}, {1, 1, 60}, {1, 6, 1}, {2, 9, 0}, {2, 0, 9}, {2, 7, 0}};
        for (int[] t : terms) {
            due("terms(" + t[0] + ", " + t[1] + ")", x.terms(t[0], t[1]), t[2]);
            due("status", x.status(), 0);
            due("told", x.count(18 + t[0]), t[1]);
        }
        due("gas", x.count(18), 5);
        due("brake", x.count(19), 6);
        due("mood", x.count(20), 7);
        says(8, "-1.");
        Edges.within(Edges::standing, "gas", 1, 60, (y, v) -> y.terms(0, v));
        Edges.within(Edges::standing, "brake", 1, 60, (y, v) -> y.terms(1, v));
        Edges.within(Edges::standing, "mood", 0, 9, (y, v) -> y.terms(2, v));
        Edges.within(Edges::standing, "what", 0, 2, (y, v) -> y.terms(v, 5));
    }

    private static void promise9() {
        says(9, "Twenty bytes come behind the TAPE, four of each number, the highest first: how many it has.");
        ThreeWheels x = new ThreeWheels();
        due("the first", x.feed(0x00010203, 0x12630600, 0x0901031F, 0xFFFFFFFF, 0x80000000), 20);
        due("behind them", x.feed(0x0A020400, 0, 0, 0, 0), 40);
        x.end(24);
        due("status", x.status(), 0);
        due("rows", x.row(), 4);
        due("mud", x.mud(), 2);
        int[][] rows = {{-9, 1, -1, 3}, {9, 99, 3, 0}, {0, 1, 0, 31}, {1, 2, 1, 0}};
        for (int b = 0; b < 4; b++) {
            for (int i = 0; i < 4; i++) {
                due("byte " + i + " of row " + b, x.at(b, i), rows[b][i]);
            }
        }
        ThreeWheels cut = new ThreeWheels();
        cut.feed(0x7269646E, 0, 0, 0, 0);
        cut.end(3);
        due("behind what is left", cut.feed(0x653B7269, 0x64653B72, 0x69646520, 0x20202020, 0x20202020), 23);
        due("ride;ride;ride", cut.orders(), -3);
        due("fault", cut.fault(), -1);
        ThreeWheels all = new ThreeWheels();
        for (int i = 1; i <= 20; i++) {
            due("feed", all.feed(0, 0, 0, 0, 0), 20 * i);
        }
        says(9, "NONE, if there would be more than 400.");
        Edges.asks(Edges::full, "from 400", y -> y.feed(0x0A050300, 1, 2, 3, 4), NONE);
        Edges.asks(() -> ended(Edges.full(), 381), "from 381", y -> y.feed(0x0A050300, 1, 2, 3, 4), NONE);
        due("from 380", ended(Edges.full(), 380).feed(1, 2, 3, 4, 5), 400);
        due("from 379", ended(Edges.full(), 379).feed(1, 2, 3, 4, 5), 399);
    }

    private static ThreeWheels ended(ThreeWheels x, int n) {
        x.end(n);
        return x;
    }

    private static void promise10() {
        says(10, "The TAPE has its first n bytes alone: n.");
        for (int n : new int[] {0, 1, 7, 8, 19, 20}) {
            ThreeWheels x = Edges.standing();
            due("end(" + n + ")", x.end(n), n);
            due("bytes", x.count(5), n);
            x.clear();
            due("rows", x.row(), n == 0 ? -6 : n / 4);
            due("the first", x.at(0, 0), n < 4 ? NOTHING : 1);
            due("the second", x.at(1, 1), n < 8 ? NOTHING : 99);
        }
        due("all 400", Edges.full().end(400), 400);
        due("nothing of nothing", Edges.fresh().end(0), 0);
        says(10, "NONE, if it has not so many, or n is below 0.");
        for (int n : new int[] {21, 400, 401, -1, Edges.FAR_UP, Edges.FAR_DOWN}) {
            Edges.asks(Edges::standing, "end(" + n + ")", y -> y.end(n), NONE);
        }
        Edges.asks(Edges::fresh, "end(1)", y -> y.end(1), NONE);
        Edges.asks(Edges::full, "end(401)", y -> y.end(401), NONE);
        due("what was cut off is gone", ended(Edges.standing(), 4).end(5), NONE);
    }

    private static void promise11() {
        says(11, "A ROW, the TAPE is empty then: how many BENDS came.");
        ThreeWheels x = Edges.standing();
        due("five", x.row(), 5);
        due("status", x.status(), 0);
        due("the tape", x.count(5), 0);
        due("nine", x.count(1), 9);
        due("behind all", x.at(4, 0), 1);
        due("the last", x.at(8, 1), 95);
        due("at stays", x.count(12), 2);
        due("sights stay", x.count(2), 2);
        due("nothing to undo", x.count(4), 0);
        ThreeWheels full = Edges.full();
        due("none where there is no room, and no refusal", full.row(), 0);
        due("status", full.status(), 0);
        due("the tape", full.count(5), 0);
        due("nothing to undo", full.count(4), 0);
        due("mud", full.mud(), 100);
        ThreeWheels most = ended(Edges.full(), 400);
        most.clear();
        due("twelve of a hundred", most.row(), 12);
        due("mud", most.mud(), 88);
        says(11, "-6 the TAPE is empty.");
        Edges.refused(() -> ended(Edges.riding(), 0), "row()", ThreeWheels::row, -6);
        Edges.refused(Edges::fresh, "row()", ThreeWheels::row, -6);
        due("one byte is no empty tape", ended(Edges.riding(), 1).row(), 0);
    }

    private static void promise12() {
        says(12, "How much MUD the latest row() had that was not REFUSED (0 ahead of any).");
        Edges.asks(Edges::fresh, "ahead of any", ThreeWheels::mud, 0);
        ThreeWheels x = new ThreeWheels();
        x.row();
        due("behind a refused one", x.mud(), 0);
        int[][] rows = {{9, 1, 3, 0}, {9}, {9, 1, 3, 0, 9}, {19, 1, 3, 0, 9, 1}, {9, 1, 3, 0, 9, 1, 3, 0}};
        int[] mud = {0, 1, 1, 2, 0};
        for (int i = 0; i < rows.length; i++) {
            Check.row(x, rows[i]);
            due("mud", x.mud(), mud[i]);
            x.row();
            due("behind a refused one", x.mud(), mud[i]);
        }
        Check.row(x, 9);
        x.clear();
        x.image(0);
        x.back(0);
        due("left by others", x.mud(), 1);
    }

    private static void promise13() {
        says(13, "The TAPE, which is empty then, becomes a LAW: its number.");
        ThreeWheels x = new ThreeWheels();
        x.bend(1, 1, 0, 0);
        for (int i = 0; i < 6; i++) {
            due("law", Check.law(x, "holds " + 11 * i), i);
            due("status", x.status(), 0);
            due("the tape", x.count(5), 0);
            due("not in force by itself", x.count(11), i - 1);
            x.force(i);
        }
        for (int i = 0; i < 6; i++) {
            x.force(i);
            due("each as it was told", x.at(0, 4), 11 * i);
        }
        due("undo is left", lawOn(Edges.standing(), "bans").count(4), 8);
        says(13, "-5 (ahead of reading it; the TAPE is empty then, too);");
        ThreeWheels full = Edges.full();
        Check.write(full, "bans; ?");
        full.law();
        due("-5 whatever is on it", full.status(), -5);
        due("the tape", full.count(5), 0);
        due("not read", full.fault(), -1);
        due("nothing on it", full.law(), -5);
        due("six", full.count(3), 6);
        Edges.refused(() -> textOn(Edges.full(), "bans"), "law()", ThreeWheels::law, -5, "tape");
        Edges.refused(() -> textOn(faulty(), "bans ?"), "law()", ThreeWheels::law, -5, "tape");
        says(13, "-6 (blanks alone: FAULT at the end).");
        Edges.refused(() -> textOn(Edges.standing(), "bans ?"), "law()", ThreeWheels::law, -6, "tape", "fault");
        for (int n : new int[] {0, 1, 7, 20}) {
            ThreeWheels y = Edges.standing();
            Check.write(y, "                    ");
            y.end(n);
            due(n + " blanks", y.law(), -6);
            due(n + " blanks, fault", y.fault(), n);
            due(n + " blanks, the tape", y.count(5), 0);
        }
    }

    private static ThreeWheels lawOn(ThreeWheels x, String text) {
        due(text, Check.law(x, text) < 0 ? 1 : 0, 0);
        return x;
    }

    /** Six laws, and a text that had a fault. */
    private static ThreeWheels faulty() {
        ThreeWheels x = Edges.full();
        Check.orders(x, "gas x");
        return x;
    }

    private static void promise14() {
        says(14, "ORDERS, the TAPE is empty then: how many were run.");
        ThreeWheels x = Edges.standing();
        due("one", Check.orders(x, "gas 1"), 1);
        due("status", x.status(), 0);
        due("the tape", x.count(5), 0);
        due("by times", Check.orders(x, "gas 1 times 20"), 20);
        due("not those that are not so", Check.orders(x, "gas 1 if 1=2; brake 1; gas 1 times 5 if 1/0=1"), 1);
        due("none is fine", Check.orders(x, "gas 1 if 1=2"), 0);
        due("status", x.status(), 0);
        due("240", Check.orders(x, "brake 1 times 20;brake 1 times 20;brake 1 times 20;brake 1 times 20;brake 1 times 20;brake 1 times 20;"
            + "brake 1 times 20;brake 1 times 20;brake 1 times 20;brake 1 times 20;brake 1 times 20;brake 1 times 20"), 240);
        due("16 can be undone", x.count(4), 16);
        says(14, "-3 one can't be;");
        Edges.refused(() -> textOn(Edges.standing(), "gas 1; lane 2; ride; gas 13"), "orders()", ThreeWheels::orders, -3, "tape", "fault", "stopped");
        ThreeWheels y = Edges.standing();
        Check.orders(y, "gas 1; gas 13");
        due("the tape", y.count(5), 0);
        due("one call, whatever it was refused by", y.count(6), 0);
        due("one call", y.count(8), 2);
        says(14, "-6 (as for law()).");
        Edges.refused(() -> textOn(Edges.standing(), "gas 1 ?"), "orders()", ThreeWheels::orders, -6, "tape", "fault", "stopped");
        for (int n : new int[] {0, 1, 7, 20}) {
            ThreeWheels z = Edges.standing();
            Check.write(z, "                    ");
            z.end(n);
            due(n + " blanks", z.orders(), -6);
            due(n + " blanks, fault", z.fault(), n);
            due(n + " blanks, the tape", z.count(5), 0);
        }
        ThreeWheels none = Edges.standing();
        due("none of a text that can't be", Check.orders(none, "gas 1; gas 1; gas"), -6);
        due("pace", none.count(13), 0);
    }

    private static void promise15() {
        says(15, "FAULT of the latest law(), orders() that read a TEXT: its place;");
        ThreeWheels x = new ThreeWheels();
        Check.law(x, "bans ?");
        due("law", x.fault(), 5);
        Check.orders(x, "ride ;?");
        due("orders", x.fault(), 6);
        x.row();
        x.load(1, 0, 0);
        due("left by others", x.fault(), 6);
        ThreeWheels full = faulty();
        due("orders", full.fault(), 4);
        Check.law(full, "bans");
        due("a law() that read none", full.fault(), 4);
        Check.orders(full, "");
        due("an empty text", full.fault(), 0);
        says(15, "NONE without.");
        Edges.asks(Edges::fresh, "ahead of any", ThreeWheels::fault, NONE);
        Check.law(x, "bans");
        due("a law", x.fault(), NONE);
        Check.law(x, "bans ?");
        Check.orders(x, "gas 1");
        due("orders", x.fault(), NONE);
        Check.law(x, "bans ?");
        due("orders that can't be", Check.orders(x, "gas 0"), -3);
        due("have none, too", x.fault(), NONE);
    }

    private static void promise16() {
        says(16, "Which CLAUSE (0 on) of the latest orders() could not be.");
        ThreeWheels x = new ThreeWheels();
        String text = "gas 0";
        for (int i = 0; i < 12; i++) {
            due("orders", Check.orders(x, text), -3);
            due("clause", x.stopped(), i);
            text = "gas 1;" + text;
        }
        due("in the middle of its times", Check.orders(x, "lane 0; lane side + 1 times 3; lane 0"), -3);
        due("clause", x.stopped(), 1);
        due("those not run are clauses, too", Check.orders(x, "gas 0 if 1=2; gas 0"), -3);
        due("clause", x.stopped(), 1);
        Check.law(x, "bans ?");
        x.row();
        x.gas(0);
        x.undo();
        due("left by others", x.stopped(), 1);
        says(16, "NONE (that was done, or REFUSED by -6; ahead of any).");
        Edges.asks(Edges::fresh, "ahead of any", ThreeWheels::stopped, NONE);
        Check.orders(x, "gas 1");
        due("done", x.stopped(), NONE);
        Check.orders(x, "gas 0");
        due("first", x.stopped(), 0);
        Check.orders(x, "gas 0; ?");
        due("-6", x.stopped(), NONE);
        Check.orders(x, "gas 0");
        Check.orders(x, "");
        due("-6", x.stopped(), NONE);
        Check.orders(x, "gas 0");
        Check.orders(x, "gas 0 if 1=2");
        due("done", x.stopped(), NONE);
    }

    private static void promise17() {
        says(17, "A LAW is in FORCE (NONE: none): which was.");
        ThreeWheels x = Edges.full();
        int was = 2;
        for (int law : new int[] {0, 5, 5, NONE, NONE, 3}) {
            due("force(" + law + ")", x.force(law), was);
            due("status", x.status(), 0);
            due("told", x.count(11), law);
            was = law;
        }
        ThreeWheels none = new ThreeWheels();
        due("none of none", none.force(NONE), NONE);
        due("status", none.status(), 0);
        due("undo is left", x.count(4), 16);
        says(17, "-2.");
        for (int law : new int[] {2, -2, 6, Edges.FAR_UP, Edges.FAR_DOWN}) {
            Edges.refused(Edges::standing, "force(" + law + ")", y -> y.force(law), -2);
        }
        Edges.refused(Edges::full, "force(6)", y -> y.force(6), -2);
        Edges.refused(Edges::fresh, "force(0)", y -> y.force(0), -2);
    }

    private static void promise18to20() {
        says(18, "GAS: PACE then.");
        due("from 0", Edges.standing().gas(1), 1);
        due("the most", Edges.standing().gas(12), 12);
        ThreeWheels x = Edges.fresh();
        x.terms(0, 59);
        due("59", x.gas(59), 59);
        due("60", x.gas(1), 60);
        due("60 at most", x.gas(59), 60);
        due("at 60 it is no refusal", x.status(), 0);
        due("and is kept", x.count(4), 3);
        says(18, "-1.");
        Edges.within(Edges::riding, "gas", 1, 12, ThreeWheels::gas);
        Edges.within(Edges::fresh, "gas", 1, 10, ThreeWheels::gas);
        says(19, "BRAKE: PACE then.");
        due("from 7", Edges.riding().brake(1), 6);
        due("to 0", Edges.riding().brake(7), 0);
        due("0 at least", Edges.riding().brake(8), 0);
        due("the most", Edges.riding().brake(25), 0);
        ThreeWheels still = Edges.standing();
        due("from 0", still.brake(1), 0);
        due("at 0 it is no refusal", still.status(), 0);
        due("and is kept", still.count(4), 9);
        says(19, "-1.");
        Edges.within(Edges::riding, "brake", 1, 25, ThreeWheels::brake);
        Edges.within(Edges::fresh, "brake", 1, 20, ThreeWheels::brake);
        says(20, "A LANE: which was.");
        ThreeWheels y = Edges.fresh();
        int[][] lanes = {{0, 0}, {1, 0}, {2, 1}, {2, 2}, {1, 2}, {1, 1}, {0, 1}};
        for (int[] l : lanes) {
            due("lane(" + l[0] + ")", y.lane(l[0]), l[1]);
            due("status", y.status(), 0);
            due("told", y.count(14), l[0]);
        }
        due("each is kept", y.count(4), 7);
        says(20, "-1;");
        Edges.within(Edges::riding, "lane", 0, 2, ThreeWheels::lane);
        says(20, "-3 too far.");
        Edges.refused(Edges::full, "lane(2) from 0", z -> z.lane(2), -3);
        Edges.refused(() -> inLane(2), "lane(0) from 2", z -> z.lane(0), -3);
        due("-1 ahead of -3", inLane(2).lane(-1), -1);
    }

    private static ThreeWheels inLane(int lane) {
        ThreeWheels x = Edges.standing();
        x.lane(lane);
        return x;
    }

    private static void promise21() {
        says(21, "A LOAD is PUT on a SPOT: where it was.");
        ThreeWheels x = Edges.standing();
        x.force(NONE);
        int was = 0;
        for (int spot : new int[] {3, 0, 2, 2, 1}) {
            due("put(0, " + spot + ")", x.put(0, spot), was);
            due("status", x.status(), 0);
            due("told", x.of(0, 1), spot);
            was = spot;
        }
        due("the others stay", x.of(1, 1), 2);
        due("its lean stays", x.of(0, 3), 1);
        due("one that is not alive", x.put(1, 0), 2);
        due("each is kept", x.count(4), 14);
        says(21, "-1;");
        for (int spot : new int[] {-1, 4, Edges.FAR_UP, Edges.FAR_DOWN}) {
            Edges.refused(Edges::standing, "spot " + spot, y -> y.put(0, spot), -1);
            due("-1 ahead of -2", Edges.standing().put(3, spot), -1);
            due("-1 ahead of -3", Edges.riding().put(0, spot), -1);
        }
        says(21, "-2;");
        for (int load : new int[] {-1, 3, 6, Edges.FAR_UP, Edges.FAR_DOWN}) {
            Edges.refused(Edges::standing, "load " + load, y -> y.put(load, 0), -2);
            due("-2 ahead of -3", Edges.riding().put(load, 0), -2);
        }
        Edges.refused(Edges::fresh, "load 0", y -> y.put(0, 0), -2);
        says(21, "-3 BARRED;");
        Edges.refused(Edges::standing, "spot 3", y -> y.put(0, 3), -3);
        Edges.refused(() -> Edges.force(Edges.standing(), "bans if spot = 0"), "where it is", y -> y.put(0, 0), -3);
        Edges.refused(() -> Edges.force(Edges.standing(), "bans if weight = 40"), "by weight", y -> y.put(1, 1), -3);
        Edges.refused(() -> Edges.force(Edges.standing(), "bans if alive = 0"), "by alive", y -> y.put(1, 1), -3);
        due("another is not", Edges.force(Edges.standing(), "bans if weight = 40").put(0, 1), 0);
        says(21, "it rides (PACE above 0).");
        Edges.refused(Edges::riding, "at pace 7", y -> y.put(0, 1), -3);
        Edges.refused(() -> atPace1(), "at pace 1", y -> y.put(0, 1), -3);
        ThreeWheels stopped = atPace1();
        stopped.brake(1);
        due("at pace 0", stopped.put(0, 1), 0);
        stopped.brake(1);
        due("-3 where it is, too, as it rides", atPace1().put(0, 0), -3);
    }

    private static ThreeWheels atPace1() {
        ThreeWheels x = Edges.standing();
        x.gas(1);
        return x;
    }

    private static void promise22and23() {
        says(22, "LEAN of an ALIVE LOAD: what it was, and 2.");
        ThreeWheels x = Edges.riding();
        int was = 1;
        for (int lean : new int[] {2, -2, 0, 0, -1, 1, -2}) {
            due("lean(0, " + lean + ")", x.lean(0, lean), was + 2);
            due("status", x.status(), 0);
            due("told", x.of(0, 3), lean);
            was = lean;
        }
        due("the other stays", x.of(2, 3), 0);
        due("each is kept", x.count(4), 16);
        says(22, "-1;");
        Edges.within(Edges::riding, "lean", -2, 2, (y, v) -> y.lean(2, v));
        due("-1 ahead of -2", Edges.riding().lean(3, 3), -1);
        due("-1 ahead of -3", Edges.riding().lean(1, -3), -1);
        says(22, "-2;");
        for (int load : new int[] {-1, 3, 6, Edges.FAR_UP, Edges.FAR_DOWN}) {
            Edges.refused(Edges::standing, "load " + load, y -> y.lean(load, 0), -2);
        }
        Edges.refused(Edges::fresh, "load 0", y -> y.lean(0, 0), -2);
        says(22, "-3 it is not ALIVE.");
        for (int lean = -2; lean <= 2; lean++) {
            int value = lean;
            Edges.refused(Edges::standing, "lean " + lean, y -> y.lean(1, value), -3);
        }
        says(23, "To RIDE: how it ended (0, 1, 2).");
        due("straight on", Edges.riding().ride(), 0);
        int[][] ends = {{-4, 10, 400, 0, 0}, {-4, 10, 399, 400, 1}, {4, 10, 0, 400, 0}, {4, 10, 400, 399, 2}, {9, 1, 0, 9, 0}, {-9, 1, 8, 9, 1}};
        for (int[] e : ends) {
            ThreeWheels y = bend("holds " + e[2] + "; grips " + e[3] + "; learns 4", e[0], 1);
            y.gas(e[1]);
            due("turn " + e[0] + " at " + e[1], y.ride(), e[4]);
            due("status", y.status(), 0);
            due("pace", y.count(13), e[4] == 0 ? e[1] : 0);
            due("hedges", y.count(15), e[4] == 0 ? 0 : 1);
            due("skill", y.count(16), e[4] == 0 ? 4 : 0);
            due("at", y.count(12), 0);
            due("kept", y.count(4), 2);
        }
        says(23, "-3.");
        Edges.refused(Edges::standing, "pace 0", ThreeWheels::ride, -3);
        Edges.refused(EdgesOfPromisesTest::cleared, "no bends", ThreeWheels::ride, -3);
        Edges.refused(Edges::fresh, "neither", ThreeWheels::ride, -3);
    }

    private static void promise24() {
        says(24, "The latest gas(), brake(), lane(), put(), lean(), ride() (by ORDERS, too; 16 are kept) is undone: 0 .. 5.");
        ThreeWheels x = Edges.standing();
        x.brake(3);
        int[][] kinds = {{1, 0, 0}, {3, 0, 1}, {5, 33, 0}, {0, 24, 0}, {0, 12, 0}, {5, 12, 0}, {4, 12, 0}, {2, 12, 0}, {0, 0, 0}, {-3, 0, 0}};
        int left = 9;
        for (int[] k : kinds) {
            due("undo()", x.undo(), k[0]);
            due("status", x.status(), Math.min(0, k[0]));
            due("pace", x.count(13), k[1]);
            left = Math.max(0, left - 1);
            due("left", x.count(4), left);
        }
        int[] first = {0, 0, 0, 0, 0};
        for (int i = 0; i < 5; i++) {
            due("count(" + (12 + i) + ")", x.count(12 + i), first[i]);
        }
        due("spot", x.of(2, 1), 1);
        due("lean", x.of(0, 3), 0);
        due("bars are left", x.count(17), 12);
        ThreeWheels ended = Edges.riding();
        Check.orders(ended, "ride; lane 2; lean 2 by 1; brake 20; put 2 at 2; gas 3");
        int[] back = {0, 3, 1, 4, 2, 5, 0, 3};
        for (int kind : back) {
            due("by orders, too", ended.undo(), kind);
        }
        due("pace", ended.count(13), 0);
        due("lane", ended.count(14), 1);
        due("spot", ended.of(2, 1), 1);
        due("at", ended.count(12), 2);
        for (int n : new int[] {15, 16, 17, 40}) {
            ThreeWheels y = new ThreeWheels();
            for (int i = 0; i < n; i++) {
                y.gas(1);
            }
            due(n + " acts", y.count(4), Math.min(16, n));
            for (int i = 1; i <= Math.min(16, n); i++) {
                due("undo", y.undo(), 0);
                due("pace", y.count(13), n - i);
            }
            due("no more", y.undo(), -3);
            due("pace", y.count(13), Math.max(0, n - 16));
        }
        undoneStepByStep();
        ThreeWheels hedge = bend("grips 0", 9, 1);
        hedge.bend(0, 1, 0, 0);
        hedge.gas(5);
        due("slid", hedge.ride(), 2);
        due("undone", hedge.undo(), 5);
        int[] again = {0, 5, 0, 0, 0};
        for (int i = 0; i < 5; i++) {
            due("count(" + (12 + i) + ")", hedge.count(12 + i), again[i]);
        }
    }

    private static void promise24refused() {
        says(24, "-3 there is none (nothing that was ahead of a load(), bend(), clear(), row() that was not REFUSED can be undone).");
        Edges.refused(Edges::fresh, "ahead of any", ThreeWheels::undo, -3);
        Edges.Call[] taken = {y -> y.load(1, 0, 1), y -> y.bend(0, 1, 0, 0), ThreeWheels::clear, ThreeWheels::row, y -> ended(y, 3).row(), y -> y.back(0)};
        for (int i = 0; i < taken.length; i++) {
            ThreeWheels y = Edges.riding();
            due("call " + i + " was taken", taken[i].on(y) < 0 ? 1 : 0, 0);
            due("call " + i, y.count(4), 0);
            due("call " + i, y.undo(), -3);
            y.gas(1);
            due("what comes behind it can be", y.undo(), 0);
            due("that alone", y.undo(), -3);
        }
        Edges.Call[] not = {y -> y.load(1, 3, 1), y -> y.load(201, 0, 1), y -> y.bend(10, 1, 0, 0), y -> ended(y, 0).row(), y -> y.back(1), y -> y.bars(2),
            y -> y.terms(0, 1), y -> y.sight(0, 1, 1), ThreeWheels::forget, y -> y.force(1), ThreeWheels::law, y -> y.days(1, 1), y -> y.image(1),
            ThreeWheels::orders, y -> y.gas(0), y -> y.feed(1, 2, 3, 4, 5)};
        for (int i = 0; i < not.length; i++) {
            ThreeWheels y = Edges.riding();
            not[i].on(y);
            due("not by call " + i, y.count(4), 9);
            due("not by call " + i, y.undo(), 0);
            due("not by call " + i, y.undo(), 3);
        }
        ThreeWheels full = Edges.full();
        full.load(1, 0, 1);
        full.bend(0, 1, 0, 0);
        due("not by those that have no room", full.count(4), 16);
        ThreeWheels cleared = cleared();
        cleared.clear();
        due("not by a clear() of none", cleared.count(4), 2);
    }

    /** All that an act can change, told ahead of each, is so again when it is undone. */
    private static void undoneStepByStep() {
        ThreeWheels x = bend("grips 9; learns 30", 1, 1);
        x.bend(0, 1, 0, 0);
        x.load(10, 1, 1);
        x.load(20, 2, 1);
        Edges.Call[] acts = {y -> y.lean(0, 2), y -> y.put(0, 3), y -> y.gas(9), ThreeWheels::ride, y -> y.gas(5), ThreeWheels::ride, y -> y.lean(1, -1),
            ThreeWheels::ride, y -> y.lane(1), y -> y.lean(0, -2), y -> y.put(0, 0), y -> y.lane(2), y -> y.gas(2), ThreeWheels::ride, y -> y.brake(1),
            y -> y.lean(1, 1)};
        int[][] told = new int[acts.length][];
        for (int i = 0; i < acts.length; i++) {
            told[i] = whatActsChange(x);
            due("act " + i, acts[i].on(x) < 0 ? 1 : 0, 0);
        }
        due("hedges", x.count(15), 2);
        for (int i = acts.length - 1; i >= 0; i--) {
            x.undo();
            int[] again = whatActsChange(x);
            for (int k = 0; k < again.length; k++) {
                due("undone to act " + i + ", number " + k, again[k], told[i][k]);
            }
        }
        due("no more", x.undo(), -3);
    }

    private static int[] whatActsChange(ThreeWheels x) {
        return new int[] {x.count(12), x.count(13), x.count(14), x.count(15), x.count(16), x.of(0, 1), x.of(0, 3), x.of(1, 1), x.of(1, 3)};
    }

    private static void promise25and26() {
        says(25, "WELL at a PACE 1 .. 60 (0), LIFTED (1), SLID (2).");
        int[][] goes = {{0, 1, 0}, {0, 15, 0}, {0, 16, 1}, {0, 60, 1}, {1, 24, 0}, {1, 25, 2}, {2, 60, 0}, {3, 18, 0}, {3, 19, 2}, {3, 60, 2}};
        for (int[] g : goes) {
            Edges.asks(Edges::standing, "goes(" + g[0] + ", " + g[1] + ")", y -> y.goes(g[0], g[1]), g[2]);
        }
        due("feared or not", bend("fears 0", 0, 1).goes(0, 60), 0);
        says(25, "NONE.");
        for (int pace : new int[] {0, -1, 61, Edges.FAR_UP, Edges.FAR_DOWN}) {
            Edges.asks(Edges::standing, "pace " + pace, y -> y.goes(2, pace), NONE);
        }
        for (int bend : new int[] {4, -1, 12, Edges.FAR_UP, Edges.FAR_DOWN}) {
            Edges.asks(Edges::standing, "bend " + bend, y -> y.goes(bend, 1), NONE);
        }
        due("no bends", Edges.fresh().goes(0, 1), NONE);
        says(26, "QUICK round a BEND: the PACE (what 0), TIME (1; 0: can't be).");
        int[][] quick = {{15, 120}, {24, 50}, {60, 25}, {18, 133}};
        for (int b = 0; b < 4; b++) {
            int bend = b;
            asks(Edges::riding, "quick of " + b + ": ", 0, (y, i) -> y.quick(bend, i), quick[b]);
        }
        asks(() -> bend("fears 0", 0, 9), "feared: ", 0, (y, i) -> y.quick(0, i), 0, 0);
        asks(() -> bend("holds 8", -9, 9), "not at 1: ", 0, (y, i) -> y.quick(0, i), 0, 0);
        asks(() -> bend("holds 9", -9, 9), "at 1: ", 0, (y, i) -> y.quick(0, i), 1, 540);
        says(26, "NONE.");
        for (int what : new int[] {-1, 2, Edges.FAR_UP, Edges.FAR_DOWN}) {
            Edges.asks(Edges::standing, "what " + what, y -> y.quick(0, what), NONE);
        }
        for (int bend : new int[] {4, -1, 12, Edges.FAR_UP, Edges.FAR_DOWN}) {
            Edges.asks(Edges::standing, "bend " + bend, y -> y.quick(bend, 0), NONE);
        }
        due("no bends", Edges.fresh().quick(0, 0), NONE);
    }

    private static void promise27and28() {
        says(27, "SOONEST: TIMES (i NONE), PACE in BEND i.");
        // 15 and 24 and 18 at most where it bends, 12 more at most, 25 less at most.
        asks(Edges::riding, "soonest", -1, ThreeWheels::soonest, 120 + 50 + 41 + 133, 15, 24, 36, 18);
        asks(Edges::fresh, "soonest without bends", -1, ThreeWheels::soonest, 0, NONE);
        asks(() -> bend("fears 1", 0, 1), "soonest", -1, ThreeWheels::soonest, 60, 1, NONE);
        says(27, "NONE (it can't be).");
        for (int i : new int[] {-2, 4, 12, Edges.FAR_UP, Edges.FAR_DOWN}) {
            Edges.asks(Edges::standing, "bend " + i, y -> y.soonest(i), NONE);
        }
        asks(() -> Edges.force(Edges.standing(), "fears 0 if long = 40"), "soonest where one is feared", -1, ThreeWheels::soonest, NONE, NONE, NONE, NONE,
            NONE);
        asks(() -> bend("grips 8", 9, 1), "soonest where it slides at 1", -1, ThreeWheels::soonest, NONE, NONE);
        says(28, "LANES: HOLES (what 0), changes (1), the LANE in BEND i (2 + i).");
        // From lane 1: 1 in the first, none in lane 1, none in lane 2, 3 in the last.
        asks(Edges::riding, "lanes", 0, ThreeWheels::lanes, 4, 1, 1, 1, 2, 2);
        asks(Edges::fresh, "lanes without bends", 0, ThreeWheels::lanes, 0, 0, NONE);
        due("in the twelfth", Edges.full().lanes(13), lastLane());
        says(28, "NONE.");
        for (int what : new int[] {-1, 6, 14, Edges.FAR_UP, Edges.FAR_DOWN}) {
            Edges.asks(Edges::standing, "what " + what, y -> y.lanes(what), NONE);
        }
        due("in a thirteenth", Edges.full().lanes(14), NONE);
    }

    /** The lane in the twelfth bend of full(), by all rows of lanes, the first of the best. */
    private static int lastLane() {
        int best = Integer.MAX_VALUE;
        int last = NONE;
        for (int code = 0; code < 531441; code++) {
            int lane = 0;
            int cost = 0;
            int digits = 531441;
            for (int b = 0; b < 12 && cost < best; b++) {
                digits /= 3;
                int to = code / digits % 3;
                cost += to == lane ? 0 : Math.abs(to - lane) > 1 ? 1000000 : 1;
                cost += 100 * Integer.bitCount(2 * b >> to & 7);
                lane = to;
            }
            if (cost < best) {
                best = cost;
                last = lane;
            }
        }
        return last;
    }

    private static void promise29to31() {
        says(29, "LEANING for a BEND: QUICK (what 0), LEAN and 2 of LOAD i (1 + i; 2 of one that is not ALIVE).");
        // 900 and lean: 16 asks for 1,024, 17 for 1,156. 3,100 less lean: 25 asks for 3,125, 26 for 3,380.
        asks(Edges::riding, "leaning for 0: ", 0, (y, i) -> y.leaning(0, i), 16, 3, 2, 4);
        asks(Edges::riding, "leaning for 1: ", 0, (y, i) -> y.leaning(1, i), 25, 0, 2, 0);
        asks(Edges::standing, "leaning for 2: ", 0, (y, i) -> y.leaning(2, i), 60, 0, 2, 0);
        asks(() -> bend("fears 0", 0, 1), "leaning of nobody, at no pace: ", 0, (y, i) -> y.leaning(0, i), 0, NONE);
        says(29, "NONE.");
        for (int what : new int[] {-1, 4, 7, Edges.FAR_UP, Edges.FAR_DOWN}) {
            Edges.asks(Edges::standing, "what " + what, y -> y.leaning(0, what), NONE);
        }
        for (int bend : new int[] {-1, 4, 12, Edges.FAR_UP, Edges.FAR_DOWN}) {
            Edges.asks(Edges::standing, "bend " + bend, y -> y.leaning(bend, 0), NONE);
        }
        due("a seventh", Edges.full().leaning(11, 7), NONE);
        due("no bends", Edges.fresh().leaning(0, 0), NONE);
        says(30, "PUTTING: TIMES (i NONE), SPOT of LOAD i.");
        asks(() -> Edges.force(Edges.riding(), "fears 9; fears 10 if chair = 110"), "putting", -1, ThreeWheels::putting, 180 + 120 + 150 + 240, 2, 0, 2);
        asks(Edges::fresh, "putting of nothing", -1, ThreeWheels::putting, 0, NONE);
        asks(EdgesOfPromisesTest::cleared, "putting without bends", -1, ThreeWheels::putting, 0, 0, 0, 0, NONE);
        says(30, "NONE (it can't be).");
        for (int i : new int[] {-2, 3, 6, Edges.FAR_UP, Edges.FAR_DOWN}) {
            Edges.asks(Edges::standing, "load " + i, y -> y.putting(i), NONE);
        }
        asks(() -> Edges.force(Edges.standing(), "bans if weight = 40"), "putting of one that is barred", -1, ThreeWheels::putting, NONE, NONE, NONE, NONE);
        asks(() -> Edges.force(Edges.standing(), "fears 0 if turn = 0"), "putting at no pace", -1, ThreeWheels::putting, NONE, NONE, NONE, NONE);
        asks(() -> Edges.force(cleared(), "bans"), "putting without bends, all barred", -1, ThreeWheels::putting, NONE, NONE);
        says(31, "SETTING: BARS and 9 (what 0), what it PULLS (1).");
        // 7, -3, 12 and 2 less bars, by 30, 20, 25, 40: least at 2.
        asks(Edges::riding, "setting", 0, ThreeWheels::setting, 11, 500);
        asks(Edges::fresh, "setting without bends", 0, ThreeWheels::setting, 0, 0);
        asks(() -> Edges.force(Edges.riding(), "pulls bars - 100"), "setting", 0, ThreeWheels::setting, 18, 91 * 115);
        says(31, "NONE.");
        for (int what : new int[] {-1, 2, Edges.FAR_UP, Edges.FAR_DOWN}) {
            Edges.asks(Edges::standing, "what " + what, y -> y.setting(what), NONE);
        }
    }

    private static void promise32() {
        says(32, "LEARNING: how many times.");
        // 97 are left, 12 a time.
        Edges.asks(Edges::riding, "learning()", ThreeWheels::learning, 9);
        due("none is needed", learned().learning(), 0);
        due("one", bend("learns 100", 0, 1).learning(), 1);
        due("two", bend("learns 50", 0, 1).learning(), 2);
        due("three", bend("learns 49", 0, 1).learning(), 3);
        due("a hundred", bend("learns 1", 0, 1).learning(), 100);
        says(32, "NONE (1,000 or more; no BENDS).");
        Edges.asks(Edges::fresh, "no bends", ThreeWheels::learning, NONE);
        Edges.asks(EdgesOfPromisesTest::cleared, "no bends", ThreeWheels::learning, NONE);
        Edges.asks(() -> bend("bans", 0, 9), "nothing is learned", ThreeWheels::learning, NONE);
        Edges.asks(() -> bend("learns 99 - skill", 0, 9), "99 at most", ThreeWheels::learning, NONE);
        ThreeWheels none = learned();
        none.clear();
        due("no bends, whatever the skill", none.learning(), NONE);
    }

    private static ThreeWheels learned() {
        ThreeWheels x = bend("learns 100", 0, 1);
        x.gas(1);
        x.ride();
        return x;
    }

    private static void promise33and34() {
        says(33, "A SIGHT: how many there are.");
        ThreeWheels x = Edges.standing();
        for (int i = 3; i <= 8; i++) {
            due("sight", x.sight(i % 4, i == 8 ? 60 : i == 7 ? 1 : i, i % 2), i);
            due("status", x.status(), 0);
            due("told", x.count(2), i);
        }
        due("the same again", twice().count(2), 2);
        says(33, "-1;");
        Edges.within(Edges::standing, "pace", 1, 60, (y, v) -> y.sight(3, v, 0));
        Edges.within(Edges::standing, "well", 0, 1, (y, v) -> y.sight(3, 9, v));
        due("-1 ahead of -2", Edges.standing().sight(4, 0, 0), -1);
        due("-1 ahead of -5", Edges.full().sight(4, 1, 2), -1);
        says(33, "-2;");
        for (int bend : new int[] {-1, 4, 12, Edges.FAR_UP, Edges.FAR_DOWN}) {
            Edges.refused(Edges::standing, "bend " + bend, y -> y.sight(bend, 1, 1), -2);
        }
        Edges.refused(Edges::fresh, "no bends", y -> y.sight(0, 1, 1), -2);
        due("-2 ahead of -5", Edges.full().sight(12, 1, 1), -2);
        says(33, "-5.");
        Edges.refused(Edges::full, "a ninth", y -> y.sight(0, 10, 1), -5);
        says(34, "SIGHTS are none then: how many there were.");
        ThreeWheels full = Edges.full();
        full.gas(0);
        due("eight", full.forget(), 8);
        due("none", full.count(2), 0);
        due("none", full.forget(), 0);
        due("status is left", full.status(), -1);
        due("the road is left", full.count(1), 12);
        due("undo is left", full.count(4), 16);
        due("a new one", full.sight(11, 1, 1), 1);
        Edges.asks(Edges::fresh, "none", ThreeWheels::forget, 0);
    }

    private static ThreeWheels twice() {
        ThreeWheels x = bend("bans", 0, 1);
        x.sight(0, 5, 1);
        x.sight(0, 5, 1);
        return x;
    }

    private static void promise35() {
        says(35, "ABOARD: sets (i NONE: how many), the i-th as bits.");
        // Bend 0 holds 900 and lean whoever is aboard; bend 3 grips less than 3,600 at pace 20 always.
        asks(Edges::riding, "aboard", -1, ThreeWheels::aboard, 8, 0, 1, 2, 3, 4, 5, 6, 7, NONE);
        // 18 asks for 2,916: more than 2,000 and 10 for each of 80, no more than with 30, too.
        asks(() -> seen(18, 1), "aboard", -1, ThreeWheels::aboard, 2, 5, 7, NONE);
        asks(() -> seen(18, 0), "aboard", -1, ThreeWheels::aboard, 6, 0, 1, 2, 3, 4, 6, NONE);
        asks(() -> seen(60, 1), "aboard", -1, ThreeWheels::aboard, 0, NONE);
        asks(Edges::fresh, "aboard", -1, ThreeWheels::aboard, 1, 0, NONE);
        ThreeWheels six = Edges.full();
        due("all of six", six.aboard(NONE), 64);
        due("the last", six.aboard(63), 63);
        due("no more", six.aboard(64), NONE);
        says(35, "NONE.");
        for (int i : new int[] {-2, 8, 64, Edges.FAR_UP, Edges.FAR_DOWN}) {
            Edges.asks(Edges::standing, "aboard(" + i + ")", y -> y.aboard(i), NONE);
        }
    }

    /** No law, 80 and 30 that do not lean at rest, 40 in the chair, and what was seen in a bend of turn 9. */
    private static ThreeWheels seen(int pace, int well) {
        ThreeWheels x = Edges.standing();
        x.back(0);
        x.sight(3, pace, well);
        return x;
    }

    private static void promise36() {
        says(36, "DAYS, kept as the latest: how many BENDS went well.");
        ThreeWheels x = bend("holds 0; learns 7", 0, 1);
        x.bend(-9, 1, 0, 0);
        due("all", x.days(1, 1), 1);
        due("kept", x.drawn(3), 7);
        due("half", x.days(1, 100), 50);
        due("kept", x.drawn(2), 50);
        due("status", x.status(), 0);
        x.gas(1);
        x.ride();
        due("none", x.days(1, 1), 0);
        due("kept", x.drawn(2), 1);
        ThreeWheels paper = Edges.riding();
        paper.days(1000000, 100);
        Edges.same("on paper", paper, Edges.riding(), "drawn");
        says(36, "-1;");
        Edges.within(Edges::standing, "seed", 0, 1000000, (y, v) -> y.days(v, 3));
        Edges.within(Edges::standing, "n", 1, 100, (y, v) -> y.days(3, v));
        for (int far : FAR) {
            due("-1 ahead of -3", Edges.fresh().days(far, 1), -1);
        }
        due("-1 ahead of -3", Edges.fresh().days(1, 101), -1);
        says(36, "-3 there are no BENDS.");
        Edges.refused(Edges::fresh, "days(0, 1)", y -> y.days(0, 1), -3);
        Edges.refused(EdgesOfPromisesTest::cleared, "days(0, 1)", y -> y.days(0, 1), -3);
    }

    private static void promise37() {
        says(37, "Behind the latest DAYS AT (what 0), PACE (1), HEDGES in them (2), SKILL (3).");
        ThreeWheels y = bend("learns 7", 0, 1);
        y.bend(-9, 1, 0, 0);
        y.bend(0, 1, 0, 0);
        y.gas(10);
        y.gas(10);
        // 12,345 is 7 of 31, 628,841 is 6: 13 and 14 less; -9 at pace 1 holds.
        int[][] drawn = {{1, 7, 0, 7}, {2, 1, 0, 14}};
        for (int n = 1; n <= 2; n++) {
            y.days(0, n);
            for (int i = 0; i < 4; i++) {
                due("drawn(" + i + ") behind " + n, y.drawn(i), drawn[n - 1][i]);
            }
        }
        ThreeWheels hedged = bend("grips 0", 9, 1);
        hedged.gas(1);
        hedged.ride();
        hedged.days(1, 3);
        due("hedges in them alone", hedged.drawn(2), 3);
        due("into the hedge", hedged.drawn(1), 0);
        hedged.days(1, 0);
        hedged.clear();
        hedged.days(1, 1);
        due("left by refused ones", hedged.drawn(2), 3);
        says(37, "NONE.");
        for (int what : new int[] {-1, 4, Edges.FAR_UP, Edges.FAR_DOWN}) {
            Edges.asks(Edges::standing, "what " + what, z -> z.drawn(what), NONE);
        }
        asks(Edges::fresh, "ahead of any, drawn", 0, ThreeWheels::drawn, NONE, NONE, NONE, NONE);
        ThreeWheels none = new ThreeWheels();
        none.days(1, 1);
        due("ahead of any that was not refused", none.drawn(0), NONE);
    }

    private static void promise38and39() {
        says(38, "IMAGE k is kept: 0;");
        for (int k : new int[] {0, 1}) {
            ThreeWheels x = Edges.riding();
            due("image(" + k + ")", x.image(k), 0);
            due("status", x.status(), 0);
            Edges.same("image(" + k + ") changes nothing else", x, Edges.riding(), "image");
            ThreeWheels y = Edges.riding();
            y.image(k);
            y.bars(-9);
            y.image(k);
            y.bars(9);
            y.back(k);
            due("the later one", y.count(17), 0);
        }
        says(38, "-1.");
        Edges.within(Edges::standing, "image", 0, 1, ThreeWheels::image);
        says(39, "BACK to IMAGE k: 0.");
        for (int k : new int[] {0, 1}) {
            ThreeWheels x = Edges.full();
            x.clear();
            x.forget();
            x.bars(7);
            due("back(" + k + ")", x.back(k), 0);
            due("status", x.status(), 0);
            due("bars", x.count(17), 9 + k);
            due("bends", x.count(1), 12);
            due("sights", x.count(2), 8);
        }
        says(39, "-1;");
        Edges.within(Edges::full, "back", 0, 1, ThreeWheels::back);
        says(39, "-2 it was not kept.");
        Edges.refused(Edges::fresh, "back(0)", x -> x.back(0), -2);
        Edges.refused(Edges::fresh, "back(1)", x -> x.back(1), -2);
        Edges.refused(Edges::riding, "back(1)", x -> x.back(1), -2);
        ThreeWheels other = Edges.fresh();
        other.image(1);
        due("the other", other.back(0), -2);
    }

    private static void promise40() {
        says(40, "0 LOADS, 1 BENDS, 2 SIGHTS, 3 LAWS, 4 how many can be undone, 5 bytes of the TAPE,");
        asks(Edges::standing, "count", 0, ThreeWheels::count, 3, 4, 2, 2, 8, 20);
        asks(Edges::full, "count", 0, ThreeWheels::count, 6, 12, 8, 6, 16, 400);
        says(40, "6 .. 10 how many calls were REFUSED by -1, -2, -3, -5, -6 (IMAGES do not keep that),");
        asks(Edges::standing, "count", 6, ThreeWheels::count, 0, 0, 1, 0, 1);
        ThreeWheels x = Edges.full();
        Edges.Call[] calls = {y -> y.gas(0), y -> y.force(9), ThreeWheels::ride, y -> y.load(1, 0, 0), y -> ended(y, 0).row()};
        x.brake(20);
        x.brake(20);
        for (int i = 0; i < 5; i++) {
            for (int n = 1; n <= i + 2; n++) {
                calls[i].on(x);
                due("count(" + (6 + i) + ")", x.count(6 + i), n);
            }
        }
        x.back(0);
        int[] counted = {2, 3, 4, 5, 6};
        for (int i = 0; i < 5; i++) {
            due("behind back(), count(" + (6 + i) + ")", x.count(6 + i), counted[i]);
        }
        says(40, "11 the LAW in FORCE, 12 AT, 13 PACE, 14 LANE, 15 HEDGES, 16 SKILL, 17 BARS and 9, 18 .. 20 TERMS 0 .. 2.");
        asks(Edges::riding, "count", 11, ThreeWheels::count, 0, 2, 7, 1, 1, 3, 12, 12, 25, 4);
        asks(Edges::fresh, "count", 11, ThreeWheels::count, NONE, 0, 0, 0, 0, 0, 9, 10, 20, 0);
        says(40, "NONE for others.");
        for (int what : new int[] {-1, 21, 22, Edges.FAR_UP, Edges.FAR_DOWN}) {
            Edges.asks(Edges::riding, "count(" + what + ")", y -> y.count(what), NONE);
        }
    }

    private static void promise41() {
        says(41, "What the latest call of load, bend, clear, bars, terms, row, law, orders, force, gas, brake, lane, put, lean, ride, undo, sight, days, image, "
            + "back was REFUSED by;");
        Edges.Call[] refused = {y -> y.load(201, 0, 0), y -> y.bend(0, 0, 0, 0), EdgesOfPromisesTest::clearTwice, y -> y.bars(10),
            y -> y.terms(3, 0), y -> ended(y, 0).row(), ThreeWheels::law, y -> textOn(y, "ride").orders(), y -> y.force(9), y -> y.gas(0), y -> y.brake(0),
            y -> y.lane(3), y -> y.put(9, 0), y -> y.lean(1, 0), ThreeWheels::ride, EdgesOfPromisesTest::undoAll, y -> y.sight(9, 1, 1),
            y -> y.days(0, 0), y -> y.image(2), y -> y.back(1)};
        int[] by = {-1, -1, -3, -1, -1, -6, -6, -3, -2, -1, -1, -1, -2, -3, -3, -3, -2, -1, -1, -2};
        for (int i = 0; i < refused.length; i++) {
            ThreeWheels x = Edges.standing();
            due("call " + i, refused[i].on(x), by[i]);
            due("status behind call " + i, x.status(), by[i]);
            due("and again", x.status(), by[i]);
        }
        ThreeWheels full = Edges.full();
        full.law();
        due("-5", full.status(), -5);
        Edges.Call[] others = {y -> y.of(9, 9), y -> y.at(99, 9), y -> y.feed(1, 2, 3, 4, 5), y -> y.end(999), ThreeWheels::mud, ThreeWheels::fault,
            ThreeWheels::stopped, y -> y.goes(99, 0), y -> y.quick(99, 9), y -> y.soonest(99), y -> y.lanes(99), y -> y.leaning(99, 9), y -> y.putting(99),
            y -> y.setting(9), ThreeWheels::learning, ThreeWheels::forget, y -> y.aboard(999), y -> y.drawn(9), y -> y.count(99), ThreeWheels::status};
        for (int i = 0; i < others.length; i++) {
            ThreeWheels x = Edges.full();
            x.lean(1, 1);
            others[i].on(x);
            due("left by question " + i, x.status(), -3);
            ThreeWheels taken = Edges.full();
            taken.bars(1);
            others[i].on(taken);
            due("left by question " + i, taken.status(), 0);
        }
        says(41, "0 if it was not, or ahead of any.");
        Edges.asks(Edges::fresh, "ahead of any", ThreeWheels::status, 0);
        Edges.Call[] taken = {y -> y.load(1, 0, 0), y -> y.bend(0, 1, 0, 0), ThreeWheels::clear, y -> y.bars(-9), y -> y.terms(0, 1), ThreeWheels::row,
            y -> textOn(y, "bans").law(), y -> textOn(y, "gas 1").orders(), y -> y.force(NONE), y -> y.gas(1), y -> y.brake(1), y -> y.lane(0),
            y -> y.put(0, 0), y -> y.lean(0, -2), EdgesOfPromisesTest::ridden, ThreeWheels::undo, y -> y.sight(0, 1, 1), y -> y.days(0, 1), y -> y.image(0),
            y -> y.back(0)};
        for (int i = 0; i < taken.length; i++) {
            ThreeWheels x = Edges.standing();
            x.gas(0);
            taken[i].on(x);
            due("status behind call " + i, x.status(), 0);
        }
        ThreeWheels none = Edges.fresh();
        none.force(9);
        due("a force() that answers NONE", none.force(NONE), NONE);
        due("is not refused", none.status(), 0);
    }

    private static int clearTwice(ThreeWheels x) {
        x.clear();
        return x.clear();
    }

    private static int undoAll(ThreeWheels x) {
        int kind = 0;
        for (int i = 0; i < 17 && kind >= 0; i++) {
            kind = x.undo();
        }
        return kind;
    }

    private static int ridden(ThreeWheels x) {
        x.gas(1);
        x.gas(0);
        return x.ride();
    }

    public static void main(String[] args) {
        use();
        promise1();
        promise2();
        promise3();
        promise4();
        promise5();
        promise6();
        promise7();
        promise8();
        promise9();
        promise10();
        promise11();
        promise12();
        promise13();
        promise14();
        promise15();
        promise16();
        promise17();
        promise18to20();
        promise21();
        promise22and23();
        promise24();
        promise24refused();
        promise25and26();
        promise27and28();
        promise29to31();
        promise32();
        promise33and34();
        promise35();
        promise36();
        promise37();
        promise38and39();
        promise40();
        promise41();
        String[] places = new String[42];
        places[0] = "What it is";
        for (int i = 1; i <= 41; i++) {
            places[i] = "Promise " + i;
        }
        Edges.finish("EdgesOfPromisesTest", places);
    }
}
