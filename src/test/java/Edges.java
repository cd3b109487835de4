import java.io.IOException;
import java.util.Arrays;
import java.util.LinkedHashMap;
import java.util.List;
import java.util.Map;

/**
 * What is due by each sentence of the document: says() names the sentence, the answers behind it are due by it. A call
 * that is refused, or that only asks, is made on one of two objects that had the same calls; then all is compared that
 * can be seen of the two.
 */
final class Edges {
    static final int FAR_DOWN = Integer.MIN_VALUE;
    static final int FAR_UP = Integer.MAX_VALUE;
    private static final int FIRST_REFUSED = 6;
    private static final List<Integer> REFUSALS = Arrays.asList(-1, -2, -3, -5, -6);

    private static Document document;
    private static String sentence = "";
    private static boolean answered = true;

    private Edges() {
    }

    interface Made {
        ThreeWheels one();
    }

    interface Call {
        int on(ThreeWheels x);
    }

    interface CallWith {
        int on(ThreeWheels x, int value);
    }

    /** The words of the document, at that place, which the answers are due by from here on. */
    static void says(String place, String words) {
        due("has a test", answered ? 1 : 0, 1);
        sentence = place + ", \"" + words + "\"";
        if (Document.isThere()) {
            due("stands in the document", read().name(place, words) ? 1 : 0, 1);
        }
        answered = false;
    }

    static void due(String call, long got, long want) {
        answered = true;
        Check.due(sentence + ": " + call, got, want);
    }

    private static Document read() {
        if (document == null) {
            try {
                document = new Document();
            } catch (IOException e) {
                throw new IllegalStateException(e);
            }
        }
        return document;
    }

    /** All words of these places were named. */
    static void finish(String name, String... places) {
        due("has a test", answered ? 1 : 0, 1);
        if (!Document.isThere()) {
            System.out.println("the document is not there: what the sentences say is tested, but not whether they are all of it");
        }
        for (String place : Document.isThere() ? places : new String[0]) {
            sentence = place;
            String left = read().unnamed(place);
            due("words that no test names: " + left, left.length(), 0);
        }
        Check.finish(name);
    }

    /** REFUSED by that; but for status(), the count of such calls and what is named as changed, all is as without the call. */
    static void refused(Made made, String call, Call c, int by, String... changed) {
        ThreeWheels x = made.one();
        ThreeWheels without = made.one();
        due(call, c.on(x), by);
        due(call + ", status", x.status(), by);
        for (int i = 0; i < REFUSALS.size(); i++) {
            int more = REFUSALS.get(i) == by ? 1 : 0;
            due(call + ", count(" + (FIRST_REFUSED + i) + ")", x.count(FIRST_REFUSED + i), without.count(FIRST_REFUSED + i) + more);
        }
        same(call, x, without, changed);
    }

    /** Answers that and changes nothing, the latest status() and the counts of REFUSED calls neither. */
    static void asks(Made made, String call, Call c, int want) {
        ThreeWheels x = made.one();
        ThreeWheels without = made.one();
        due(call, c.on(x), want);
        due(call + ", status", x.status(), without.status());
        for (int i = 0; i < REFUSALS.size(); i++) {
            due(call + ", count(" + (FIRST_REFUSED + i) + ")", x.count(FIRST_REFUSED + i), without.count(FIRST_REFUSED + i));
        }
        same(call, x, without);
    }

    /** Taken from low to high, REFUSED by -1 beyond. */
    static void within(Made made, String call, int low, int high, CallWith c) {
        for (int value : new int[] {low, low + 1, high - 1, high}) {
            ThreeWheels x = made.one();
            int got = c.on(x, value);
            due(call + " with " + value + " answered " + got + ", status", x.status(), 0);
        }
        for (int value : new int[] {low - 1, high + 1, FAR_DOWN, FAR_UP}) {
            refused(made, call + " with " + value, x -> c.on(x, value), -1);
        }
    }

    /** All that can be seen of the two is the same, but for what is named as changed. */
    static void same(String call, ThreeWheels x, ThreeWheels other, String... changed) {
        Map<String, Integer> got = seen(x);
        Map<String, Integer> want = seen(other);
        for (Map.Entry<String, Integer> e : want.entrySet()) {
            String what = e.getKey();
            if (Arrays.stream(changed).noneMatch(what::startsWith)) {
                due(call + ", then " + what, got.getOrDefault(what, FAR_DOWN), e.getValue());
            }
        }
    }

    /** All that can be seen of the object, but for status() and the counts of REFUSED calls; it is used up by that. */
    private static Map<String, Integer> seen(ThreeWheels x) {
        Map<String, Integer> all = new LinkedHashMap<>();
        seeCounts(all, "", x);
        all.put("tape: count(5)", x.count(5));
        all.put("fault", x.fault());
        all.put("stopped", x.stopped());
        all.put("mud", x.mud());
        for (int i = 0; i < 4; i++) {
            all.put("drawn(" + i + ")", x.drawn(i));
        }
        seeCarAndRoad(all, "", x);
        for (int i = -1; i < 6; i++) {
            all.put("aboard(" + i + ")", x.aboard(i));
        }
        int laws = x.count(3);
        for (int i = 0; i < laws; i++) {
            x.force(i);
            all.put("law " + i + " holds", x.at(0, 4));
            all.put("law " + i + " bars", x.of(0, 7));
        }
        seeUndone(all, x);
        seeTape(all, x);
        for (int k = 0; k < 2; k++) {
            all.put("image " + k, x.back(k));
            seeCounts(all, "image " + k + ": ", x);
            all.put("image " + k + ": spot", x.of(0, 1));
            all.put("image " + k + ": lean", x.of(0, 3));
        }
        return all;
    }

    private static void seeCounts(Map<String, Integer> all, String when, ThreeWheels x) {
        for (int i = 0; i <= 20; i++) {
            if (i != 5 && (i < FIRST_REFUSED || i >= FIRST_REFUSED + REFUSALS.size())) {
                all.put(when + (i == 4 ? "undo: " : "") + "count(" + i + ")", x.count(i));
            }
        }
    }

    private static void seeCarAndRoad(Map<String, Integer> all, String when, ThreeWheels x) {
        int loads = x.count(0);
        for (int l = 0; l < loads; l++) {
            for (int what = 0; what < 4; what++) {
                all.put(when + "of(" + l + ", " + what + ")", x.of(l, what));
            }
        }
        int bends = x.count(1);
        for (int b = 0; b < bends; b++) {
            for (int what = 0; what < 4; what++) {
                all.put(when + "at(" + b + ", " + what + ")", x.at(b, what));
            }
        }
        for (int what = 4; what < 9; what++) {
            all.put(when + "at(0, " + what + ")", x.at(0, what));
        }
    }

    private static void seeUndone(Map<String, Integer> all, ThreeWheels x) {
        int kind = 0;
        for (int i = 0; i < 17 && kind >= 0; i++) {
            kind = x.undo();
            all.put("undo " + i, kind);
            for (int what = 12; what <= 16; what++) {
                all.put("undo " + i + ", count(" + what + ")", x.count(what));
            }
        }
        all.put("undo: spot", x.of(0, 1));
        all.put("undo: lean", x.of(0, 3));
    }

    /** The tape as a row of bends. */
    private static void seeTape(Map<String, Integer> all, ThreeWheels x) {
        x.clear();
        all.put("tape: row", x.row());
        all.put("tape: mud", x.mud());
        for (int b = 0; b < 5; b++) {
            for (int what = 0; what < 4; what++) {
                all.put("tape: at(" + b + ", " + what + ")", x.at(b, what));
            }
        }
    }

    // ---- objects to call on ----

    static ThreeWheels fresh() {
        return new ThreeWheels();
    }

    /** A new object with that law in force. */
    static ThreeWheels under(String law) {
        ThreeWheels x = new ThreeWheels();
        return force(x, law);
    }

    static ThreeWheels force(ThreeWheels x, String law) {
        int number = Check.law(x, law);
        due("law: " + law, number < 0 ? 1 : 0, 0);
        x.force(number);
        return x;
    }

    /** Some of all, standing still ahead of bend 2, with a row of five bends on the tape; image 0 is kept, image 1 is not. */
    static ThreeWheels standing() {
        ThreeWheels x = new ThreeWheels();
        x.load(80, 0, 1);
        x.load(40, 2, 0);
        x.load(30, 1, 1);
        x.bend(-4, 30, 1, 5);
        x.bend(5, 20, -1, 16);
        x.bend(0, 25, 2, 3);
        x.bend(9, 40, 0, 31);
        x.bars(3);
        x.image(0);
        Check.law(x, "bans if spot = 3; holds 900 + lean; learns 3");
        Check.law(x, "holds 1000 - bars");
        x.force(0);
        x.terms(0, 12);
        x.terms(1, 25);
        x.terms(2, 4);
        x.sight(0, 14, 1);
        x.sight(3, 20, 0);
        x.days(7, 9);
        Check.row(x, 1, 2, 3);
        x.gas(12);
        x.lane(1);
        x.lean(0, 1);
        x.ride();
        x.gas(12);
        x.gas(9);
        x.ride();
        x.put(2, 0);
        Check.orders(x, "gas 1; gas 0");
        Check.law(x, "holds ?");
        x.end(0);
        x.feed(0x0A050300, 0x01630601, 0x120A0002, 0x09010303, 0x0B5F041F);
        return x;
    }

    /** As standing(), but at pace 7. */
    static ThreeWheels riding() {
        ThreeWheels x = standing();
        x.gas(7);
        return x;
    }

    /** All that there is room for: loads, bends, sights, laws, bytes of the tape, what can be undone, images. */
    static ThreeWheels full() {
        ThreeWheels x = new ThreeWheels();
        for (int i = 0; i < 6; i++) {
            x.load(20 * i + 10, i % 3, (i + 1) % 2);
            Check.law(x, "bans if spot=" + (3 - i % 2));
        }
        for (int i = 0; i < 12; i++) {
            x.bend(i - 5, 10 + i, i % 7 - 3, 2 * i);
        }
        for (int i = 0; i < 8; i++) {
            x.sight(i, 10, 1);
        }
        x.force(2);
        x.image(0);
        x.bars(1);
        x.image(1);
        x.days(1, 2);
        for (int i = 0; i < 17; i++) {
            x.gas(1 + i % 2);
        }
        for (int i = 0; i < 20; i++) {
            x.feed(0x0A050300, 0x01630601, 0x120A0002, 0x09010303, 0x0B5F041F);
        }
        return x;
    }
}
