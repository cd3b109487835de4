/** The edges that "Terms" I, III and IV name, sentence by sentence. */
public final class EdgesOfTermsTest {
    private static final String ONE = "Terms I";
    private static final String THREE = "Terms III";
    private static final String FOUR = "Terms IV";

    private EdgesOfTermsTest() {
    }

    private static void due(String call, long got, long want) {
        Edges.due(call, got, want);
    }

    /** What the questions answer, from the lowest number on. */
    private static void row(String call, ThreeWheels x, int from, Edges.CallWith asked, int... wants) {
        for (int i = 0; i < wants.length; i++) {
            due(call + "(" + (from + i) + ")", asked.on(x, from + i), wants[i]);
        }
    }

    // ---- I ----

    private static void loads() {
        Edges.says(ONE, "I. LOADS 0 .. 5 (6 at most):");
        ThreeWheels six = new ThreeWheels();
        for (int i = 0; i < 6; i++) {
            due("load", six.load(i + 1, 0, 1), i);
        }
        due("of(0, 0)", six.of(0, 0), 1);
        due("of(5, 0)", six.of(5, 0), 6);
        due("of(-1, 0)", six.of(-1, 0), -1000);
        due("of(6, 0)", six.of(6, 0), -1000);
        due("a seventh", six.load(1, 0, 1), -5);
        due("six", six.count(0), 6);

        Edges.says(ONE, "WEIGHT 0 .. 200,");
        Edges.within(Edges::fresh, "load's weight", 0, 200, (x, v) -> x.load(v, 0, 1));
        ThreeWheels x = new ThreeWheels();
        x.load(0, 0, 1);
        x.load(200, 0, 1);
        due("the least", x.of(0, 0), 0);
        due("the greatest", x.of(1, 0), 200);

        Edges.says(ONE, "a SPOT 0 .. 3 (0 the saddle, 1 behind, 2 the chair, 3 its nose),");
        Edges.within(Edges::fresh, "load's spot", 0, 3, (y, v) -> y.load(9, v, 1));
        Edges.within(EdgesOfTermsTest::lawless, "put's spot", 0, 3, (y, v) -> y.put(0, v));
        int[] holds = {600, 600, 800, 800};
        int[] grips = {2100, 2100, 2000, 2000};
        for (int spot = 0; spot < 4; spot++) {
            ThreeWheels one = new ThreeWheels();
            one.load(10, spot, 1);
            one.bend(1, 1, 0, 0);
            due("spot " + spot, one.of(0, 1), spot);
            due("chair on spot " + spot, one.at(0, 4), holds[spot]);
            due("rest on spot " + spot, one.at(0, 5), grips[spot]);
        }

        Edges.says(ONE, "ALIVE or not (ALIVE ones can lean),");
        Edges.within(Edges::fresh, "load's alive", 0, 1, (y, v) -> y.load(9, 0, v));
        ThreeWheels two = new ThreeWheels();
        two.load(10, 0, 1);
        two.load(10, 0, 0);
        due("an alive one", two.lean(0, 1), 2);
        due("one that is not", two.lean(1, 1), -3);

        Edges.says(ONE, "LEAN -2 .. 2 (towards the chair; 0 at first).");
        due("0 at first", two.of(1, 3), 0);
        Edges.within(Edges::standing, "lean", -2, 2, (y, v) -> y.lean(2, v));
        two.bend(1, 1, 0, 0);
        two.lean(0, 2);
        due("told", two.of(0, 3), 2);
        due("towards the chair it holds more", two.at(0, 4), 620);
        due("and grips less", two.at(0, 5), 2180);
        two.lean(0, -2);
        due("told", two.of(0, 3), -2);
        due("the other way it holds less", two.at(0, 4), 580);
        due("and grips more", two.at(0, 5), 2220);
    }

    private static ThreeWheels lawless() {
        ThreeWheels x = Edges.standing();
        x.force(ThreeWheels.NONE);
        return x;
    }

    private static void bends() {
        Edges.says(ONE, "A ROAD of BENDS 0 .. 11 (12 at most):");
        ThreeWheels x = new ThreeWheels();
        for (int i = 0; i < 12; i++) {
            due("bend", x.bend(0, i + 1, 0, 0), i);
        }
        due("at(0, 1)", x.at(0, 1), 1);
        due("at(11, 1)", x.at(11, 1), 12);
        due("at(-1, 1)", x.at(-1, 1), -1000);
        due("at(12, 1)", x.at(12, 1), -1000);
        due("a thirteenth", x.bend(0, 1, 0, 0), -5);
        due("twelve", x.count(1), 12);

        Edges.says(ONE, "TURN -9 .. 9 (below 0: left),");
        Edges.within(Edges::fresh, "bend's turn", -9, 9, (y, v) -> y.bend(v, 1, 0, 0));
        ThreeWheels both = new ThreeWheels();
        both.bend(-9, 1, 0, 0);
        both.bend(9, 1, 0, 0);
        due("told", both.at(0, 0), -9);
        due("told", both.at(1, 0), 9);
        due("to the left it lifts", both.goes(0, 60), 1);
        due("to the right it slides", both.goes(1, 60), 2);

        Edges.says(ONE, "LONG 1 .. 99,");
        Edges.within(Edges::fresh, "bend's length", 1, 99, (y, v) -> y.bend(0, v, 0, 0));
        Edges.says(ONE, "CAMBER -3 .. 3,");
        Edges.within(Edges::fresh, "bend's camber", -3, 3, (y, v) -> y.bend(0, 1, v, 0));
        Edges.says(ONE, "HOLES 0 .. 31 (bits of five tracks).");
        Edges.within(Edges::fresh, "bend's holes", 0, 31, (y, v) -> y.bend(0, 1, 0, v));
        int[] under = {1, 2, 3, 2, 1};
        for (int track = 0; track < 5; track++) {
            int met = 0;
            for (int lane = 0; lane < 3; lane++) {
                met += holesOn(lane, 1 << track);
            }
            due("lanes that meet a hole in track " + track, met, under[track]);
        }
    }

    private static void sights() {
        Edges.says(ONE, "SIGHTS, 8 at most:");
        ThreeWheels seen = new ThreeWheels();
        seen.bend(0, 1, 0, 0);
        for (int i = 1; i <= 8; i++) {
            due("sight", seen.sight(0, 1, 1), i);
        }
        due("a ninth", seen.sight(0, 1, 1), -5);
        due("eight", seen.count(2), 8);

        Edges.says(ONE, "a BEND, a PACE, whether it went well (1) or not (0).");
        Edges.within(Edges::standing, "sight's pace", 1, 60, (y, v) -> y.sight(3, v, 1));
        Edges.within(Edges::standing, "sight's well", 0, 1, (y, v) -> y.sight(3, 1, v));
        ThreeWheels one = new ThreeWheels();
        one.bend(0, 1, 0, 0);
        one.bend(-6, 1, 0, 0);
        one.sight(1, 10, 1);
        due("well at 10", one.aboard(-1), 1);
        one.sight(1, 11, 0);
        due("not at 11", one.aboard(-1), 1);
        one.sight(1, 11, 1);
        due("both can't be", one.aboard(-1), 0);
        one.forget();
        one.sight(0, 60, 0);
        due("straight on it is always well", one.aboard(-1), 0);
    }

    /** Whether the one hole of a bend is under the wheels in that lane. */
    private static int holesOn(int lane, int hole) {
        ThreeWheels x = holes(lane, hole);
        // The lane is left if one beside misses the hole, so that it was met, too, if there is a change.
        return x.lanes(0) + x.lanes(1);
    }

    private static void states() {
        Edges.says(ONE, "BARS -9 .. 9 (0 at first),");
        due("at first", Edges.fresh().count(17), 9);
        Edges.within(Edges::standing, "bars", -9, 9, ThreeWheels::bars);
        Edges.says(ONE, "LANE 0 .. 2 (0),");
        due("at first", Edges.fresh().count(14), 0);
        Edges.within(Edges::standing, "lane", 0, 2, ThreeWheels::lane);
        Edges.says(ONE, "AT: the BEND to come (0),");
        ThreeWheels x = new ThreeWheels();
        due("at first", x.count(12), 0);
        x.bend(0, 10, 0, 0);
        x.bend(0, 10, 0, 0);
        x.gas(1);
        x.ride();
        due("behind bend 0", x.count(12), 1);
        Edges.says(ONE, "PACE 0 .. 60 (0),");
        ThreeWheels fast = new ThreeWheels();
        due("at first", fast.count(13), 0);
        fast.terms(0, 60);
        due("60", fast.gas(60), 60);
        due("not 61", fast.gas(1), 60);
        fast.terms(1, 60);
        due("0", fast.brake(60), 0);
        due("not below", fast.brake(1), 0);
        Edges.says(ONE, "HEDGES: how often it went there (0),");
        ThreeWheels hedged = Edges.under("grips 0");
        hedged.bend(1, 1, 0, 0);
        due("at first", hedged.count(15), 0);
        for (int i = 1; i <= 3; i++) {
            hedged.gas(1);
            hedged.ride();
            due("hedges", hedged.count(15), i);
        }
        Edges.says(ONE, "SKILL 0 .. 100 (0).");
        ThreeWheels learned = Edges.under("learns 99");
        due("at first", learned.count(16), 0);
        learned.bend(0, 1, 0, 0);
        learned.gas(1);
        learned.ride();
        due("99", learned.count(16), 99);
        learned.ride();
        due("100, not 198", learned.count(16), 100);
        Edges.says(ONE, "TERMS: 0 GAS 1 .. 60 (10 at first),");
        due("at first", Edges.fresh().count(18), 10);
        Edges.within(Edges::standing, "gas", 1, 60, (y, v) -> y.terms(0, v));
        Edges.says(ONE, "1 BRAKE 1 .. 60 (20),");
        due("at first", Edges.fresh().count(19), 20);
        Edges.within(Edges::standing, "brake", 1, 60, (y, v) -> y.terms(1, v));
        Edges.says(ONE, "2 MOOD 0 .. 9 (0).");
        due("at first", Edges.fresh().count(20), 0);
        Edges.within(Edges::standing, "mood", 0, 9, (y, v) -> y.terms(2, v));
    }

    private static void refusals() {
        Edges.says(ONE, "REFUSED by: -1 a number that can't be;");
        Edges.refused(Edges::riding, "load(201, 0, 0)", x -> x.load(201, 0, 0), -1);
        Edges.refused(Edges::riding, "bend(0, 0, 0, 0)", x -> x.bend(0, 0, 0, 0), -1);
        Edges.refused(Edges::riding, "bars(10)", x -> x.bars(10), -1);
        Edges.refused(Edges::riding, "terms(3, 1)", x -> x.terms(3, 1), -1);
        Edges.refused(Edges::riding, "gas(13)", x -> x.gas(13), -1);
        Edges.refused(Edges::riding, "brake(26)", x -> x.brake(26), -1);
        Edges.refused(Edges::riding, "lane(3)", x -> x.lane(3), -1);
        Edges.refused(Edges::standing, "put(0, 4)", x -> x.put(0, 4), -1);
        Edges.refused(Edges::riding, "lean(0, 3)", x -> x.lean(0, 3), -1);
        Edges.refused(Edges::riding, "sight(0, 61, 1)", x -> x.sight(0, 61, 1), -1);
        Edges.refused(Edges::riding, "days(1000001, 1)", x -> x.days(1000001, 1), -1);
        Edges.refused(Edges::riding, "image(2)", x -> x.image(2), -1);
        Edges.refused(Edges::riding, "back(2)", x -> x.back(2), -1);

        Edges.says(ONE, "-2 there is no such LOAD, BEND, LAW, IMAGE;");
        for (int none : new int[] {3, -1, 6, Edges.FAR_UP, Edges.FAR_DOWN}) {
            Edges.refused(Edges::standing, "put(" + none + ", 0)", x -> x.put(none, 0), -2);
            Edges.refused(Edges::standing, "lean(" + none + ", 0)", x -> x.lean(none, 0), -2);
        }
        for (int none : new int[] {4, -1, 12, Edges.FAR_UP, Edges.FAR_DOWN}) {
            Edges.refused(Edges::riding, "sight(" + none + ", 1, 1)", x -> x.sight(none, 1, 1), -2);
        }
        for (int none : new int[] {2, -2, 6, Edges.FAR_UP, Edges.FAR_DOWN}) {
            Edges.refused(Edges::riding, "force(" + none + ")", x -> x.force(none), -2);
        }
        Edges.refused(Edges::riding, "back(1)", x -> x.back(1), -2);

        Edges.says(ONE, "-3 it can't be by what stands;");
        Edges.refused(Edges::riding, "load(1, 3, 1), barred", x -> x.load(1, 3, 1), -3);
        Edges.refused(Edges::fresh, "clear() without bends", ThreeWheels::clear, -3);
        Edges.refused(() -> textOn(Edges.riding(), "gas 1; gas 0"), "orders that can't be", ThreeWheels::orders, -3, "tape", "fault");
        Edges.refused(Edges::full, "lane(2) from 0", x -> x.lane(2), -3);
        Edges.refused(Edges::standing, "put(0, 3), barred", x -> x.put(0, 3), -3);
        Edges.refused(Edges::riding, "put(0, 1) as it rides", x -> x.put(0, 1), -3);
        Edges.refused(Edges::riding, "lean(1, 0), not alive", x -> x.lean(1, 0), -3);
        Edges.refused(Edges::standing, "ride() at pace 0", ThreeWheels::ride, -3);
        Edges.refused(EdgesOfTermsTest::roadless, "ride() without bends", ThreeWheels::ride, -3);
        Edges.refused(Edges::fresh, "undo() of nothing", ThreeWheels::undo, -3);
        Edges.refused(Edges::fresh, "days(1, 1) without bends", x -> x.days(1, 1), -3);

        Edges.says(ONE, "-5 no room;");
        Edges.refused(Edges::full, "load", x -> x.load(1, 0, 1), -5);
        Edges.refused(Edges::full, "bend", x -> x.bend(1, 1, 1, 1), -5);
        Edges.refused(Edges::full, "sight", x -> x.sight(0, 1, 1), -5);
        Edges.refused(Edges::full, "law", ThreeWheels::law, -5, "tape");

        Edges.says(ONE, "-6 a TEXT, a ROW that can't be.");
        Edges.refused(() -> textOn(Edges.riding(), ""), "row of nothing", ThreeWheels::row, -6);
        Edges.refused(() -> textOn(Edges.riding(), "bans bans"), "law", ThreeWheels::law, -6, "tape", "fault");
        Edges.refused(() -> textOn(Edges.riding(), "ride ride"), "orders", ThreeWheels::orders, -6, "tape", "fault", "stopped");
    }

    /** With pace, but without a bend. */
    private static ThreeWheels roadless() {
        ThreeWheels x = Edges.riding();
        x.clear();
        x.gas(3);
        return x;
    }

    private static ThreeWheels textOn(ThreeWheels x, String text) {
        Check.write(x, text);
        return x;
    }

    private static void firstRefusal() {
        Edges.says(ONE, "The first of these in that order.");
        ThreeWheels full = Edges.full();
        due("load: -1, -3, -5", full.load(201, 3, 1), -1);
        due("load: -3, -5", full.load(200, 3, 1), -3);
        due("load: -5", full.load(200, 2, 1), -5);
        due("bend: -1, -5", full.bend(10, 1, 0, 0), -1);
        due("sight: -1, -2, -5", full.sight(12, 61, 1), -1);
        due("sight: -1, -2, -5", full.sight(12, 1, 2), -1);
        due("sight: -1, -5", full.sight(11, 0, 1), -1);
        due("sight: -2, -5", full.sight(12, 60, 1), -2);
        due("sight: -5", full.sight(11, 60, 1), -5);
        due("put: -1, -2, -3", full.put(6, 4), -1);
        due("put: -1, -3", full.put(5, -1), -1);
        due("put: -2, -3", full.put(6, 3), -2);
        due("put: -3", full.put(5, 0), -3);
        due("lean: -1, -2", full.lean(6, 3), -1);
        due("lean: -1, -3", full.lean(1, -3), -1);
        due("lean: -2", full.lean(6, 2), -2);
        due("lean: -3", full.lean(1, 2), -3);
        due("lane: -1, -3", full.lane(3), -1);
        due("lane: -3", full.lane(2), -3);
        Check.write(full, "holds holds");
        due("law: -5, -6", full.law(), -5);
        due("terms: both wrong", full.terms(3, 61), -1);
        ThreeWheels none = new ThreeWheels();
        due("days: -1, -3", none.days(-1, 1), -1);
        due("days: -1, -3", none.days(0, 0), -1);
        due("days: -3", none.days(0, 1), -3);
        due("back: -1, -2", none.back(2), -1);
        due("back: -2", none.back(1), -2);
        Check.write(none, "ride; ?");
        due("orders: a text that can't be is not run", none.orders(), -6);
    }

    // ---- III ----

    private static ThreeWheels bend(String law, int turn, int length) {
        ThreeWheels x = Edges.under(law);
        x.bend(turn, length, 0, 0);
        return x;
    }

    private static void push() {
        Edges.says(THREE, "III. TURN times PACE times PACE is the PUSH.");
        due("9 times 60 times 60", bend("grips 1000*32+400", 9, 1).goes(0, 60), 0);
        due("that is 32,400", bend("grips 1000*32+399", 9, 1).goes(0, 60), 2);
        due("1 times 1 times 1", bend("grips 1", 1, 1).goes(0, 1), 0);
        due("that is 1", bend("grips 0", 1, 1).goes(0, 1), 2);
        due("left 4 times 7 times 7", bend("holds 196", -4, 1).goes(0, 7), 0);
        due("that is 196", bend("holds 195", -4, 1).goes(0, 7), 1);
        Edges.says(THREE, "A BEND goes WELL at a PACE, if PUSH is no more than it GRIPS (TURN above 0),");
        due("as much", bend("grips 500; holds 0", 5, 1).goes(0, 10), 0);
        due("less", bend("grips 501; holds 0", 5, 1).goes(0, 10), 0);
        due("more", bend("grips 499; holds 1000", 5, 1).goes(0, 10), 2);
        Edges.says(THREE, "less PUSH no more than it HOLDS (TURN below 0; else it LIFTS),");
        due("as much", bend("holds 500; grips 0", -5, 1).goes(0, 10), 0);
        due("less", bend("holds 501; grips 0", -5, 1).goes(0, 10), 0);
        due("more", bend("holds 499; grips 1000", -5, 1).goes(0, 10), 1);
        Edges.says(THREE, "always if TURN is 0.");
        due("at 60", bend("holds 0; grips 0; fears 0", 0, 1).goes(0, 60), 0);
        due("at 1", bend("holds 0; grips 0; fears 0", 0, 1).goes(0, 1), 0);
    }

    private static void rides() {
        Edges.says(THREE, "To RIDE (PACE above 0, a BEND to come):");
        ThreeWheels x = new ThreeWheels();
        x.gas(1);
        due("no bend", x.ride(), -3);
        x.bend(0, 1, 0, 0);
        due("pace 1", x.ride(), 0);
        x.brake(1);
        due("pace 0", x.ride(), -3);
        Edges.says(THREE, "well: 0; LIFTED: 1, SLID: 2:");
        due("well", ridden(bend("holds 400; grips 0", -4, 1), 10), 0);
        due("lifted", ridden(bend("holds 399; grips 400", -4, 1), 10), 1);
        due("well", ridden(bend("grips 400; holds 0", 4, 1), 10), 0);
        due("slid", ridden(bend("grips 399; holds 400", 4, 1), 10), 2);
        Edges.says(THREE, "it goes into the hedge: HEDGES more, PACE 0;");
        for (int turn : new int[] {-4, 4}) {
            ThreeWheels hedged = bend("holds 399; grips 399; learns 9", turn, 1);
            ridden(hedged, 10);
            due("hedges", hedged.count(15), 1);
            due("pace", hedged.count(13), 0);
            due("nothing is learned", hedged.count(16), 0);
        }
        Edges.says(THREE, "ended well SKILL is more by what one LEARNS (100 at most).");
        ThreeWheels learns = bend("learns 100-skill-long if skill < 98; learns 2 if skill > 98; holds 0", 0, 1);
        int[] skills = {99, 100, 100};
        for (int skill : skills) {
            due("well", ridden(learns, 1), 0);
            due("skill", learns.count(16), skill);
            due("pace is left", learns.count(15), 0);
        }
        Edges.says(THREE, "AT is the next one then; behind the last it is 0 again.");
        ThreeWheels twelve = Edges.under("holds 0 if camber = 1");
        for (int i = 0; i < 12; i++) {
            twelve.bend(i % 3 == 2 ? -1 : 0, 1, i % 2, 0);
        }
        for (int i = 0; i < 24; i++) {
            due("at", twelve.count(12), i % 12);
            due("ended", ridden(twelve, 1), i % 6 == 5 ? 1 : 0);
        }
        due("at", twelve.count(12), 0);
        ThreeWheels one = bend("fears 0", 0, 1);
        due("well, feared or not", ridden(one, 10), 0);
        due("the only one", one.count(12), 0);
    }

    /** How a ride ends at that pace, not above 10, where it stood. */
    private static int ridden(ThreeWheels x, int pace) {
        if (x.count(13) > pace) {
            x.brake(x.count(13) - pace);
        }
        if (x.count(13) < pace) {
            x.gas(pace - x.count(13));
        }
        return x.ride();
    }

    private static void gasBrakeLane() {
        Edges.says(THREE, "GAS: PACE more by 1 .. GAS (60 at most);");
        ThreeWheels x = new ThreeWheels();
        x.terms(0, 29);
        due("less than 1", x.gas(0), -1);
        due("1", x.gas(1), 1);
        due("more than GAS", x.gas(30), -1);
        due("GAS", x.gas(29), 30);
        due("59", x.gas(29), 59);
        due("60", x.gas(1), 60);
        due("60 at most", x.gas(29), 60);
        Edges.says(THREE, "BRAKE: less by 1 .. BRAKE (0 at least).");
        x.terms(1, 29);
        due("less than 1", x.brake(0), -1);
        due("1", x.brake(1), 59);
        due("more than BRAKE", x.brake(30), -1);
        due("BRAKE", x.brake(29), 30);
        due("1", x.brake(29), 1);
        due("0", x.brake(1), 0);
        due("0 at least", x.brake(29), 0);
        Edges.says(THREE, "LANE: one beside at most.");
        int[][] lanes = {{0, 0}, {1, 0}, {1, 1}, {2, 1}, {0, -3}, {2, 2}, {1, 2}, {0, 1}, {2, -3}};
        for (int[] l : lanes) {
            due("lane(" + l[0] + ")", x.lane(l[0]), l[1]);
        }
        due("lane", x.count(14), 0);
    }

    private static void onPaper() {
        Edges.says(THREE, "(On paper:)");
        Edges.asks(Edges::riding, "quick(0, 0)", x -> x.quick(0, 0), 15);
        Edges.asks(Edges::riding, "soonest(-1)", x -> x.soonest(-1), 120 + 50 + 41 + 133);
        Edges.asks(Edges::riding, "lanes(4)", x -> x.lanes(4), 2);
        Edges.asks(Edges::riding, "leaning(0, 1)", x -> x.leaning(0, 1), 3);
        Edges.asks(Edges::riding, "putting(1)", x -> x.putting(1), 0);
        Edges.asks(Edges::riding, "setting(0)", x -> x.setting(0), 11);
        Edges.asks(Edges::riding, "learning()", ThreeWheels::learning, 9);
        Edges.asks(Edges::riding, "aboard(0)", x -> x.aboard(0), 0);
        Edges.says(THREE, "QUICK round a BEND: the greatest PACE 1 .. 60, not above what is FEARED, at which it goes well (0: none);");
        due("60", bend("grips 1000*32+400", 9, 1).quick(0, 0), 60);
        due("59", bend("grips 1000*32+399", 9, 1).quick(0, 0), 59);
        due("60 at most", bend("grips 1000*99", 1, 1).quick(0, 0), 60);
        due("as feared", bend("fears 59", 0, 1).quick(0, 0), 59);
        due("feared, less than what goes well", bend("fears 9; holds 100", -1, 1).quick(0, 0), 9);
        due("what goes well, less than feared", bend("fears 11; holds 100", -1, 1).quick(0, 0), 10);
        due("1", bend("grips 9", 9, 1).quick(0, 0), 1);
        due("none", bend("grips 8", 9, 1).quick(0, 0), 0);
        due("1", bend("fears 1", 0, 1).quick(0, 0), 1);
        due("none", bend("fears 0", 0, 1).quick(0, 0), 0);
        Edges.says(THREE, "TIME of a BEND at a PACE: LONG times 60 by PACE (cut).");
        due("99 by 60", bend("fears 60", 0, 99).quick(0, 1), 99);
        due("99 by 1", bend("fears 1", 0, 99).quick(0, 1), 5940);
        due("1 by 31, cut", bend("fears 31", 0, 1).quick(0, 1), 1);
        due("1 by 60", bend("fears 60", 0, 1).quick(0, 1), 1);
        due("2 by 41, cut", bend("fears 41", 0, 2).quick(0, 1), 2);
    }

    private static ThreeWheels straight(String law, int... lengths) {
        ThreeWheels x = Edges.under(law);
        for (int length : lengths) {
            x.bend(0, length, 0, 0);
        }
        return x;
    }

    private static void soonest() {
        Edges.says(THREE, "SOONEST: a PACE for each BEND, 1 or more, at which it goes well, not above what is FEARED,");
        ThreeWheels x = Edges.under("fears 8 if long = 10; holds 900");
        x.terms(0, 60);
        x.terms(1, 60);
        x.bend(0, 10, 0, 0);
        x.bend(-4, 60, 0, 0);
        row("soonest", x, -1, ThreeWheels::soonest, 75 + 240, 8, 15, -1);
        row("at pace 1", straight("fears 1", 3, 4), -1, ThreeWheels::soonest, 180 + 240, 1, 1, -1);
        row("can't be", straight("fears 60; fears 0 if long = 4", 3, 4), -1, ThreeWheels::soonest, -1, -1, -1, -1);
        row("well at 1", bend("holds 4", -4, 1), -1, ThreeWheels::soonest, 60, 1, -1);
        row("not at 1", bend("holds 3", -4, 1), -1, ThreeWheels::soonest, -1, -1, -1);
        Edges.says(THREE, "from one BEND to the next GAS more at most, BRAKE less at most (the first: any):");
        row("10 more", straight("fears long", 5, 60, 5), -1, ThreeWheels::soonest, 60 + 240 + 60, 5, 15, 5);
        row("11 more", terms(straight("fears long", 5, 60, 5), 11, 20), -1, ThreeWheels::soonest, 60 + 225 + 60, 5, 16, 5);
        row("10 less", terms(straight("fears long", 5, 60, 5), 60, 10), -1, ThreeWheels::soonest, 60 + 240 + 60, 5, 15, 5);
        row("9 less", terms(straight("fears long", 5, 60, 5), 60, 9), -1, ThreeWheels::soonest, 60 + 257 + 60, 5, 14, 5);
        row("60 more and less", terms(straight("fears long", 5, 60, 5), 60, 60), -1, ThreeWheels::soonest, 60 + 60 + 60, 5, 60, 5);
        row("1 more and less", terms(straight("fears long", 5, 60, 60, 5), 1, 1), -1, ThreeWheels::soonest, 60 + 600 + 600 + 60, 5, 6, 6, 5);
        ThreeWheels first = terms(straight("fears long", 60, 60), 1, 1);
        row("the first: any, from pace 0", first, -1, ThreeWheels::soonest, 120, 60, 60);
        ThreeWheels fast = terms(straight("fears long", 1), 60, 1);
        fast.gas(60);
        row("the first: any, from pace 60", fast, -1, ThreeWheels::soonest, 60, 1);
        Edges.says(THREE, "the least TIMES together;");
        // 23 ahead of the 3 is more than 20 off; 13 behind it.
        row("as quick as can be around a slow one", straight("fears 60; fears 3 if long = 1", 90, 1, 90), -1, ThreeWheels::soonest,
            234 + 20 + 415, 23, 3, 13);
        row("twelve", straight("fears 9", 9, 9, 9, 9, 9, 9, 9, 9, 9, 9, 9, 9), -1, ThreeWheels::soonest, 720, 9, 9, 9, 9, 9, 9, 9, 9, 9,
            9, 9, 9, -1);
        Edges.says(THREE, "the first row of PACES.");
        row("1 from 31 on", straight("fears 60", 1, 1), -1, ThreeWheels::soonest, 2, 31, 31);
        row("up to the last in time", straight("fears 60", 1, 1, 99), -1, ThreeWheels::soonest, 101, 40, 50, 60);
        row("down from the first", terms(straight("fears 60; fears 31 if camber = 0", 99, 1), 10, 20), -1, ThreeWheels::soonest,
            191 + 1, 31, 31);
    }

    private static ThreeWheels terms(ThreeWheels x, int gas, int brake) {
        x.terms(0, gas);
        x.terms(1, brake);
        return x;
    }

    private static ThreeWheels holes(int lane, int... holes) {
        ThreeWheels x = new ThreeWheels();
        x.lane(Math.min(1, lane));
        x.lane(lane);
        for (int h : holes) {
            x.bend(0, 1, 0, h);
        }
        return x;
    }

    private static void lanes() {
        Edges.says(THREE, "The car in a LANE has its wheels on tracks LANE, and 1, and 2 more.");
        // All but one track of the lane and of those beside are full, so that only where the hole is missing matters.
        int[][] met = {{2, 2, 2, 3, 3}, {3, 2, 2, 2, 3}, {3, 3, 2, 2, 2}};
        for (int lane = 0; lane < 3; lane++) {
            for (int track = 0; track < 5; track++) {
                int best = 3;
                for (int to = Math.max(0, lane - 1); to <= Math.min(2, lane + 1); to++) {
                    best = Math.min(best, met[to][track]);
                }
                ThreeWheels x = holes(lane, 31 - (1 << track));
                due("lane " + lane + ", all but track " + track, x.lanes(0), best);
                due("lane " + lane + ", all but track " + track + ", changes", x.lanes(1), met[lane][track] == best ? 0 : 1);
            }
        }
        row("none", holes(0, 0), 0, ThreeWheels::lanes, 0, 0, 0, -1);
        row("all", holes(2, 31), 0, ThreeWheels::lanes, 3, 0, 2, -1);
        Edges.says(THREE, "LANES: one for each BEND (the first: LANE as it is, or one beside; from BEND to BEND the same):");
        row("two beside is too far", holes(2, 28), 0, ThreeWheels::lanes, 2, 1, 1, -1);
        row("two beside is too far", holes(0, 7), 0, ThreeWheels::lanes, 2, 1, 1, -1);
        row("one beside in each", holes(0, 0, 15), 0, ThreeWheels::lanes, 2, 2, 1, 2, -1);
        row("not in one", holes(0, 15), 0, ThreeWheels::lanes, 3, 0, 0, -1);
        row("back", holes(2, 0, 30), 0, ThreeWheels::lanes, 2, 2, 1, 0, -1);
        row("no bend", holes(1), 0, ThreeWheels::lanes, 0, 0, -1);
        row("twelve", holes(1, 31, 31, 31, 31, 31, 31, 31, 31, 31, 31, 31, 31), 0, ThreeWheels::lanes, 36, 0, 1, 1, 1, 1, 1, 1, 1, 1, 1, 1, 1,
            1, -1);
        Edges.says(THREE, "the fewest HOLES under wheels together,");
        row("by the last", holes(0, 0, 0, 7), 0, ThreeWheels::lanes, 1, 2, 0, 1, 2);
        row("holes ahead of changes", holes(0, 7, 28, 7, 28), 0, ThreeWheels::lanes, 6, 4, 1, 0, 1, 0);
        row("a change for a hole", holes(0, 1, 8, 1, 8, 1, 8, 1, 8, 1, 8, 1, 8), 0, ThreeWheels::lanes, 0, 12, 1, 0, 1, 0, 1, 0, 1, 0, 1, 0, 1,
            0);
        Edges.says(THREE, "then the fewest changes (from the LANE as it is, too);");
        row("from the lane as it is", holes(1, 0, 0), 0, ThreeWheels::lanes, 0, 0, 1, 1);
        row("from the lane as it is", holes(2, 0, 0), 0, ThreeWheels::lanes, 0, 0, 2, 2);
        row("one for all", holes(1, 0, 8, 0, 8), 0, ThreeWheels::lanes, 0, 1, 0, 0, 0, 0);
        Edges.says(THREE, "the first row.");
        row("either side", holes(1, 10), 0, ThreeWheels::lanes, 1, 1, 0);
        row("early or late", holes(1, 0, 8), 0, ThreeWheels::lanes, 0, 1, 0, 0);
        row("late or early", holes(1, 0, 2), 0, ThreeWheels::lanes, 0, 1, 1, 2);
    }

    private static void leaning() {
        Edges.says(THREE, "LEANING for a BEND: LEANS of all ALIVE ones, -2 .. 2 each, by which one is QUICKEST there (whatever is now);");
        int[][] wants = {{220, 20, 4, 2, 4}, {221, 10, 0, 2, 0}, {-220, 20, 0, 2, 0}, {-221, 10, 0, 2, 0}, {50, 20, 3, 2, 1}};
        for (int[] w : wants) {
            ThreeWheels x = Edges.under("fears 10; fears 20 if lean + 300 = " + (w[0] + 300));
            x.load(80, 0, 1);
            x.load(40, 1, 0);
            x.load(30, 2, 1);
            x.bend(0, 1, 0, 0);
            for (int now = -2; now <= 2; now += 2) {
                x.lean(0, now);
                row("lean " + w[0] + ", now " + now, x, 0, (y, i) -> y.leaning(0, i), w[1], w[2], w[3], w[4], -1);
            }
        }
        ThreeWheels both = new ThreeWheels();
        both.load(100, 0, 1);
        both.bend(-8, 1, 0, 0);
        both.bend(8, 1, 0, 0);
        both.bend(0, 1, 0, 0);
        row("to the left", both, 0, (y, i) -> y.leaning(0, i), 10, 4, -1);
        row("to the right", both, 0, (y, i) -> y.leaning(1, i), 20, 0, -1);
        row("straight on", both, 0, (y, i) -> y.leaning(2, i), 60, 0, -1);
        row("nobody", bend("fears 7", 0, 1), 0, (y, i) -> y.leaning(0, i), 7, -1);
        ThreeWheels six = Edges.under("fears 5; fears 6 if lean = 1000 + 1000 + 400");
        for (int i = 0; i < 6; i++) {
            six.load(200, 0, 1);
        }
        six.bend(0, 1, 0, 0);
        row("six of 200", six, 0, (y, i) -> y.leaning(0, i), 6, 4, 4, 4, 4, 4, 4, -1);
        Edges.force(six, "fears 5; fears 6 if lean + 1000 + 1000 + 399 < 0");
        row("six of 200", six, 0, (y, i) -> y.leaning(0, i), 6, 0, 0, 0, 0, 0, 0, -1);
        Edges.force(six, "fears 0");
        row("at no pace", six, 0, (y, i) -> y.leaning(0, i), 0, 0, 0, 0, 0, 0, 0, -1);
        Edges.says(THREE, "the first row by numbers.");
        ThreeWheels two = Edges.under("fears 5; fears 6 if lean = 0");
        two.load(10, 0, 1);
        two.load(10, 0, 1);
        two.bend(0, 1, 0, 0);
        row("-2 and 2", two, 0, (y, i) -> y.leaning(0, i), 6, 0, 4);
        Edges.force(two, "fears 5; fears 6 if lean = 10");
        row("-1 and 2", two, 0, (y, i) -> y.leaning(0, i), 6, 1, 4);
        Edges.force(two, "fears 5; fears 6 if lean > 0 - 20");
        row("-2 and 1", two, 0, (y, i) -> y.leaning(0, i), 6, 0, 3);
    }

    private static ThreeWheels two(String law, int first, int second) {
        ThreeWheels x = straight(law, 60);
        x.force(-1);
        x.load(first, 0, 1);
        x.load(second, 0, 1);
        x.force(0);
        return x;
    }

    private static void putting() {
        Edges.says(THREE, "PUTTING: all LOADS on SPOTS not BARRED by which TIMES of all BENDS, each at its QUICK PACE (0: can't be) are least together;");
        row("both in the chair", two("fears chair/10", 100, 50), -1, ThreeWheels::putting, 240, 2, 2, -1);
        row("its nose", two("fears chair/10; bans if spot = 2", 100, 50), -1, ThreeWheels::putting, 240, 3, 3, -1);
        row("one is barred there", two("fears chair/10; bans if weight = 50 and spot > 1", 100, 50), -1, ThreeWheels::putting, 360, 2, 0, -1);
        row("one is barred everywhere", two("fears chair/10; bans if weight = 50", 100, 50), -1, ThreeWheels::putting, -1, -1, -1, -1);
        row("pace 1", two("fears chair/10; bans if weight = 50 and spot > 1", 10, 50), -1, ThreeWheels::putting, 3600, 2, 0, -1);
        row("pace 0", two("fears chair/10; bans if weight = 50 and spot > 1", 9, 50), -1, ThreeWheels::putting, -1, -1, -1, -1);
        ThreeWheels sum = two("fears chair/10 if long = 60; fears rest/10 if long = 30", 100, 50);
        sum.bend(0, 30, 0, 0);
        row("together", sum, -1, ThreeWheels::putting, 360 + 360, 2, 0, -1);
        sum.bend(0, 30, 0, 0);
        row("together", sum, -1, ThreeWheels::putting, 720 + 180 + 180, 0, 2, -1);
        row("just one at rest", two("fears 5; fears 9 if rest = 50", 100, 50), -1, ThreeWheels::putting, 400, 2, 0, -1);
        row("none at rest", two("fears 5; fears 9 if rest = 0", 100, 50), -1, ThreeWheels::putting, 400, 2, 2, -1);
        row("none in the chair", two("fears 5; fears 9 if chair = 0", 100, 50), -1, ThreeWheels::putting, 400, 0, 0, -1);
        row("no loads", straight("fears 9", 9, 9), -1, ThreeWheels::putting, 120, -1);
        row("no loads, no pace", straight("fears 0", 9, 9), -1, ThreeWheels::putting, -1, -1);
        ThreeWheels leaned = two("fears lean", 10, 50);
        leaned.lean(0, 2);
        row("leans as they are", leaned, -1, ThreeWheels::putting, 180, 0, 0, -1);
        ThreeWheels six = straight("fears 9; fears 10 if chair = 6", 60);
        for (int i = 1; i <= 6; i++) {
            six.load(i, 0, 0);
        }
        row("six", six, -1, ThreeWheels::putting, 360, 0, 0, 0, 0, 0, 2, -1);
        Edges.says(THREE, "the first row of SPOTS.");
        row("all the same", two("fears 9", 100, 50), -1, ThreeWheels::putting, 400, 0, 0);
        row("without the saddle", two("fears 9; bans if spot = 0", 100, 50), -1, ThreeWheels::putting, 400, 1, 1);
        row("the first one not", two("fears 9; bans if weight = 100 and spot < 3", 100, 50), -1, ThreeWheels::putting, 400, 3, 0);
        row("one of two", two("fears 5; fears 9 if chair = 50", 50, 50), -1, ThreeWheels::putting, 400, 0, 2);
        row("one of two, barred", two("fears 5; fears 9 if chair = 50; bans if spot = 0 or spot = 2", 50, 50), -1, ThreeWheels::putting, 400,
            1, 3);
    }

    private static ThreeWheels cambers(int... lengthAndCamber) {
        ThreeWheels x = new ThreeWheels();
        for (int i = 0; i < lengthAndCamber.length; i += 2) {
            x.bend(0, lengthAndCamber[i], lengthAndCamber[i + 1], 0);
        }
        return x;
    }

    private static void setting() {
        Edges.says(THREE, "SETTING: the BARS by which what the ROAD PULLS (without signs, by LONG times as much) is least together;");
        row("one", cambers(10, 1), 0, ThreeWheels::setting, 14, 0, -1);
        row("without signs", cambers(11, 1, 10, -1), 0, ThreeWheels::setting, 14, 100, -1);
        row("by long", cambers(10, 1, 11, -1), 0, ThreeWheels::setting, 4, 100, -1);
        row("-9", cambers(2, -3), 0, ThreeWheels::setting, 0, 12, -1);
        row("9", cambers(2, 3), 0, ThreeWheels::setting, 18, 12, -1);
        row("between", cambers(5, 1, 4, 0, 5, -1), 0, ThreeWheels::setting, 9, 50, -1);
        ThreeWheels now = cambers(10, 1);
        now.bars(-9);
        row("whatever they are", now, 0, ThreeWheels::setting, 14, 0, -1);
        row("by law", bend("pulls 0 - 1000 + bars", 0, 99), 0, ThreeWheels::setting, 0, 9801, -1);
        Edges.says(THREE, "the lowest.");
        row("-5 .. 5", cambers(10, 1, 10, -1), 0, ThreeWheels::setting, 4, 100, -1);
        row("all", bend("pulls 7", 0, 3), 0, ThreeWheels::setting, 0, 21, -1);
        row("no bends", new ThreeWheels(), 0, ThreeWheels::setting, 0, 0, -1);
    }

    private static void learning() {
        Edges.says(THREE, "LEARNING: how many times the whole ROAD must be ridden, well all the time, till SKILL is 100.");
        due("one a time", straight("learns 1", 1).learning(), 100);
        due("50 a time", straight("learns 25", 1, 1).learning(), 2);
        due("49 and 50 a time", straight("learns 25 - skill / 49", 1, 1).learning(), 3);
        due("99, then once more", straight("learns 99", 1).learning(), 2);
        due("at once", straight("learns 100", 1).learning(), 1);
        due("in the middle of it", straight("learns 60", 1, 1, 1).learning(), 1);
        due("more than can be", straight("learns 99 if skill = 0; learns 0 if skill = 99", 1).learning(), -1);
        due("as skill grows within", straight("learns 50; learns 0 if skill > 0 and long = 1", 1, 1, 2).learning(), 1);
        ThreeWheels hedge = bend("holds 0; learns 20", -9, 1);
        due("well all the time", hedge.learning(), 5);
        ThreeWheels done = straight("learns 100", 1);
        ridden(done, 1);
        due("it is 100", done.learning(), 0);
        ThreeWheels later = straight("learns long", 1, 50);
        ridden(later, 1);
        due("the whole road, wherever one is", later.learning(), 2);
    }

    private static void aboard() {
        Edges.says(THREE, "ABOARD: sets of LOADS by which, all others left at home, all SIGHTS are so (SPOTS, LEANS as they are).");
        ThreeWheels x = Edges.under("holds chair * 4 + rest; grips 100 + lean");
        x.load(25, 2, 1);
        x.load(100, 0, 1);
        x.load(99, 1, 1);
        x.bend(-1, 1, 0, 0);
        x.bend(1, 1, 0, 0);
        row("all", x, -1, ThreeWheels::aboard, 8, 0, 1, 2, 3, 4, 5, 6, 7, -1);
        x.sight(0, 10, 1);
        row("100 and more", x, -1, ThreeWheels::aboard, 6, 1, 2, 3, 5, 6, 7, -1);
        x.sight(0, 11, 0);
        row("less than 121", x, -1, ThreeWheels::aboard, 2, 1, 2, -1);
        x.lean(1, 1);
        x.sight(1, 11, 0);
        row("leans as they are", x, -1, ThreeWheels::aboard, 1, 1, -1);
        x.put(0, 0);
        row("spots as they are", x, -1, ThreeWheels::aboard, 0, -1);
        row("nobody, nothing seen", new ThreeWheels(), -1, ThreeWheels::aboard, 1, 0, -1);
    }

    // ---- IV ----

    /** The lowest seed by which the first draw of m is that. */
    private static int seedFor(int m, int draw) {
        int seed = 0;
        while ((seed * 1103L + 12345) % 1000003 % m != draw) {
            seed++;
        }
        return seed;
    }

    private static ThreeWheels at(int pace, int... lengths) {
        ThreeWheels x = straight("learns long", lengths);
        x.terms(0, 60);
        x.gas(pace);
        return terms(x, 10, 20);
    }

    private static void days() {
        Edges.says(FOUR, "IV. DAYS with a SEED, n BENDS 1 .. 100, on paper, from AT on, PACE as it is:");
        Edges.within(Edges::riding, "days' n", 1, 100, (x, n) -> x.days(5, n));
        ThreeWheels x = at(30, 1, 2, 3, 4, 5);
        ridden(x, 10);
        x.gas(10);
        x.gas(10);
        due("one", x.days(0, 1), 1);
        row("from bend 1 on at pace 30", x, 0, ThreeWheels::drawn, 2, 17, 0, 1 + 2, -1);
        due("five", x.days(0, 5), 5);
        due("all the way round", x.drawn(0), 1);
        due("skill", x.drawn(3), 1 + 2 + 3 + 4 + 5 + 1);
        due("a hundred", x.days(0, 100), 100);
        due("twenty times round", x.drawn(0), 1);
        due("skill", x.drawn(3), 100);
        ThreeWheels paper = Edges.riding();
        paper.days(0, 100);
        Edges.same("on paper", paper, Edges.riding(), "drawn");
    }

    private static void draws() {
        Edges.says(FOUR, "s is the SEED (0 .. 1,000,000);");
        Edges.within(Edges::riding, "days' seed", 0, 1000000, (y, seed) -> y.days(seed, 5));
        due("0", at(30, 1).days(0, 1), 1);
        due("12,345 is 7 of 31", drawnPace(at(30, 1), 0, 1), 30 + 7 - 20);
        due("9,036 is 15 of 31", drawnPace(at(30, 1), 1000000, 1), 30 + 15 - 20);
        Edges.says(FOUR, "a DRAW of m: s becomes (s times 1103 and 12345) modulo 1,000,003, it is s modulo m.");
        // 12,345, 628,841, 621,889: 7, 6, 29 of 31.
        due("two", drawnPace(at(30, 1), 0, 2), 30 - 13 - 14);
        due("three", drawnPace(at(30, 1), 0, 3), 30 - 13 - 14 + 9);
        // 895 times 1103 and 12345 is 999,530; 896: 1,000,633, which is 630.
        due("999,530 is 28 of 31", drawnPace(at(30, 1), 895, 1), 30 + 28 - 20);
        due("630 is 10 of 31", drawnPace(at(30, 1), 896, 1), 30 + 10 - 20);
        Edges.says(FOUR, "Ahead of each BEND a DRAW of GAS and BRAKE and 1 together, less BRAKE: PACE is that much more (1 .. 60: the nearest);");
        due("0: BRAKE less", drawnPace(at(30, 1), seedFor(31, 0), 1), 10);
        due("1", drawnPace(at(30, 1), seedFor(31, 1), 1), 11);
        due("BRAKE: as it is", drawnPace(at(30, 1), seedFor(31, 20), 1), 30);
        due("BRAKE and GAS: GAS more", drawnPace(at(30, 1), seedFor(31, 30), 1), 40);
        due("1", drawnPace(at(21, 1), seedFor(31, 0), 1), 1);
        due("not 0", drawnPace(at(20, 1), seedFor(31, 0), 1), 1);
        due("not -10", drawnPace(at(10, 1), seedFor(31, 0), 1), 1);
        due("60", drawnPace(at(50, 1), seedFor(31, 30), 1), 60);
        due("not 61", drawnPace(at(51, 1), seedFor(31, 30), 1), 60);
        due("not 70", drawnPace(at(60, 1), seedFor(31, 30), 1), 60);
        due("from 0", drawnPace(terms(straight("learns 0", 1), 60, 1), seedFor(62, 61), 1), 60);
        due("of 2 and 1", drawnPace(terms(at(30, 1), 1, 1), seedFor(3, 2), 1), 31);
        due("of 121", drawnPace(terms(at(1, 1), 60, 60), seedFor(121, 120), 1), 60);
        Edges.says(FOUR, "then one RIDES.");
        ThreeWheels hedges = terms(bend("holds 0; learns 9", -1, 1), 5, 1);
        hedges.bend(0, 1, 0, 0);
        due("one of two", hedges.days(seedFor(7, 6), 2), 1);
        due("hedges", hedges.drawn(2), 1);
        due("skill", hedges.drawn(3), 9);
        due("round again", hedges.drawn(0), 0);
        due("the second from pace 0", hedges.drawn(1) <= 5 ? 1 : 0, 1);
        due("none", hedges.days(9, 1), 0);
        ThreeWheels grows = straight("learns 1 + skill; holds skill", 1);
        grows.days(0, 3);
        due("by what one has learned in them", grows.drawn(3), 7);
        row("in the hedge", hedges, 0, ThreeWheels::drawn, 1, 0, 1, 0);
    }

    private static int drawnPace(ThreeWheels x, int seed, int n) {
        x.days(seed, n);
        return x.drawn(1);
    }

    private static void rows() {
        Edges.says(FOUR, "A ROW: the TAPE's bytes by fours: TURN and 9, LONG, CAMBER and 3, HOLES: a BEND;");
        ThreeWheels x = new ThreeWheels();
        due("the least, the greatest", Check.row(x, 0, 1, 0, 0, 18, 99, 6, 31), 2);
        row("the least", x, 0, (y, i) -> y.at(0, i), -9, 1, -3, 0);
        row("the greatest", x, 0, (y, i) -> y.at(1, i), 9, 99, 3, 31);
        due("no mud", x.mud(), 0);
        Edges.says(FOUR, "one that can't be, one within which the TAPE ends, one for which there is no room is MUD: none.");
        int[][] wrong = {{19, 1, 0, 0}, {255, 1, 0, 0}, {0, 0, 0, 0}, {0, 100, 0, 0}, {0, 255, 0, 0}, {0, 1, 7, 0}, {0, 1, 255, 0}, {0, 1, 0, 32},
            {0, 1, 0, 255}, {0}, {0, 1}, {0, 1, 0}};
        for (int[] w : wrong) {
            due("none", Check.row(x, w), 0);
            due("mud", x.mud(), 1);
            due("status", x.status(), 0);
        }
        due("two", x.count(1), 2);
        due("those behind mud come", Check.row(x, 0, 0, 0, 0, 9, 5, 3, 1, 9, 1, 7, 0, 9, 6, 3, 2, 9, 7, 3), 2);
        due("mud", x.mud(), 3);
        row("in their order", x, 0, (y, i) -> y.at(2, i), 0, 5, 0, 1);
        row("in their order", x, 0, (y, i) -> y.at(3, i), 0, 6, 0, 2);
        int[] ten = new int[40];
        for (int i = 0; i < 40; i++) {
            ten[i] = i % 4 == 1 ? 1 + i / 4 : 3;
        }
        due("as there is room", Check.row(x, ten), 8);
        due("mud", x.mud(), 2);
        due("the twelfth", x.at(11, 1), 8);
        due("none", Check.row(x, 0, 1, 0, 0), 0);
        due("mud", x.mud(), 1);
        due("twelve", x.count(1), 12);
    }

    private static void images() {
        Edges.says(FOUR, "IMAGES 0, 1 keep all but the TAPE, FAULT, MUD, where ORDERS stopped, what can be undone (nothing, behind back()), the latest DAYS;");
        for (int k : new int[] {0, 1}) {
            ThreeWheels x = Edges.standing();
            x.image(k);
            due("all of it changes", change(x), 0);
            x.back(k);
            Edges.same("back", x, notBack(k), "tape", "fault", "mud", "stopped", "drawn", "undo");
            ThreeWheels y = Edges.standing();
            y.image(k);
            change(y);
            due("undone", y.count(4), 2);
            y.back(k);
            due("nothing to undo", y.count(4), 0);
            due("nothing to undo", y.undo(), -3);
            due("the tape", y.count(5), 6);
            due("fault", y.fault(), 0);
            due("mud", y.mud(), 2);
            due("stopped", y.stopped(), 3);
            due("the latest days", y.drawn(2), 2);
        }
        ThreeWheels counted = new ThreeWheels();
        counted.image(0);
        counted.gas(0);
        counted.back(0);
        due("refused calls are not kept", counted.count(6), 1);
        Edges.says(FOUR, "BACK to one all that it keeps is as it was then (IMAGES stay).");
        ThreeWheels two = new ThreeWheels();
        two.image(0);
        two.bars(1);
        two.image(1);
        two.bars(2);
        for (int i = 0; i < 3; i++) {
            due("back(0)", two.back(0), 0);
            due("as it was", two.count(17), 9);
            two.load(5, 0, 1);
            two.bars(7);
            due("back(1)", two.back(1), 0);
            due("as it was", two.count(17), 10);
            due("as it was", two.count(0), 0);
        }
        two.image(0);
        two.back(0);
        due("the later one", two.count(17), 10);
        oneThenTheOther();
    }

    /** Two cars on two roads under two laws, each in an image: all of the one is there again in the place of all of the other. */
    private static void oneThenTheOther() {
        int[][] loads = {{10, 1, 1, 2}, {20, 3, 1, -1}};
        int[][] bends = {{-9, 1, -3, 1, 9}, {9, 99, 3, 30, 6}};
        // Well at 1 round bend 0 to the left, where 9 is held; not at 10 round bend 1, where 9 is gripped.
        int[][] sights = {{0, 1, 1}, {1, 10, 0}};
        ThreeWheels x = new ThreeWheels();
        x.image(1);
        for (int k = 0; k < 2; k++) {
            x.back(1);
            x.load(loads[k][0], loads[k][1], loads[k][2]);
            x.load(5, 0, k);
            x.lean(0, loads[k][3]);
            x.bend(bends[k][0], bends[k][1], bends[k][2], bends[k][3]);
            x.bend(8, 1, 0, 0);
            x.sight(sights[k][0], sights[k][1], sights[k][2]);
            Edges.force(x, "holds " + bends[k][4] + "; grips " + 9 * k);
            if (k == 0) {
                x.image(0);
            }
        }
        x.image(1);
        for (int i = 0; i < 4; i++) {
            int k = i % 2;
            x.back(k);
            row("of 0: ", x, 0, (y, what) -> y.of(0, what), loads[k]);
            row("at 0: ", x, 0, (y, what) -> y.at(0, what), bends[k]);
            due("alive", x.of(1, 2), k);
            due("sights", x.aboard(-1), 4);
        }
    }

    /** What standing() is behind image and back, but for what is left out. */
    private static ThreeWheels notBack(int k) {
        ThreeWheels x = Edges.standing();
        x.image(k);
        return x;
    }

    /** Changes all that an image keeps, and all that it does not; 0. */
    private static int change(ThreeWheels x) {
        Check.law(x, "grips 0; holds 0");
        x.force(2);
        x.load(9, 1, 1);
        x.sight(1, 1, 1);
        x.bars(-9);
        x.terms(0, 1);
        x.terms(1, 2);
        x.terms(2, 3);
        x.clear();
        x.bend(-9, 1, 0, 0);
        x.bend(9, 2, 1, 7);
        x.sight(1, 1, 1);
        x.gas(1);
        x.ride();
        x.lane(0);
        x.lean(0, -2);
        x.put(0, 2);
        x.put(1, 1);
        Check.row(x, 1, 0, 1, 1, 1);
        x.gas(1);
        x.lane(1);
        Check.orders(x, "lane 1; lane 0; gas 1; ride times 1; ride");
        Check.orders(x, "gas 1; gas 1; gas 1; gas 0");
        Check.law(x, "hedge 1");
        x.days(3, 2);
        Check.write(x, "123456");
        return 0;
    }

    private static void constants() {
        Edges.says("The constants", "The constants: `NONE = -1`: There is none.");
        due("NONE", ThreeWheels.NONE, -1);
        due("no law in force", new ThreeWheels().count(11), ThreeWheels.NONE);
        Edges.says("The constants", "`NOTHING = -1000`: What is not there, where it could be below 0.");
        due("NOTHING", ThreeWheels.NOTHING, -1000);
        due("no load", new ThreeWheels().of(0, 3), ThreeWheels.NOTHING);
        due("no bend", new ThreeWheels().at(0, 7), ThreeWheels.NOTHING);
    }

    public static void main(String[] args) {
        loads();
        bends();
        sights();
        states();
        refusals();
        firstRefusal();
        push();
        rides();
        gasBrakeLane();
        onPaper();
        soonest();
        lanes();
        leaning();
        putting();
        setting();
        learning();
        aboard();
        days();
        draws();
        rows();
        images();
        constants();
        Edges.finish("EdgesOfTermsTest", ONE, THREE, FOUR, "The constants");
    }
}
