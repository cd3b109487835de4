import java.util.ArrayList;
import java.util.List;

/** Long runs of drawn calls, each answered by the class and by the oracle; the draws are always the same. */
public final class OracleTest {
    private static final int RUNS = 500;
    /** What an object answers behind these is free. */
    private static final int MOST_CALLS = 512;
    private static final int LAST_COUNTS = 23;

    private long s;
    private ThreeWheels x;
    private Oracle o;
    private final List<String> log = new ArrayList<>();
    private boolean same;
    private int calls;
    private int hard;

    private OracleTest(long seed) {
        s = seed * 7919 + 12345;
    }

    private int draw(int m) {
        s = s * 6364136223846793005L + 1442695040888963407L;
        return (int) ((s >>> 33) % m);
    }

    /** Mostly within, now and then just outside or far away. */
    private int value(int low, int high) {
        int k = draw(24);
        if (k == 0) {
            return low - 1;
        }
        if (k == 1) {
            return high + 1;
        }
        if (k == 2) {
            int[] far = {Integer.MIN_VALUE, Integer.MAX_VALUE, -1000, 1000, 65536, -7};
            return far[draw(far.length)];
        }
        return low + draw(high - low + 1);
    }

    private String oneOf(String... all) {
        return all[draw(all.length)];
    }

    // ---- texts ----

    private String part(boolean orders, int deep) {
        int k = draw(10);
        if (k < 4) {
            return oneOf("0", "1", "2", "3", "5", "7", "10", "20", "60", "100", "1000", "999", "0017");
        }
        if (k == 4 && deep < 3) {
            return "[" + sum(orders, deep + 1) + "]";
        }
        if (orders) {
            int w = draw(9);
            return w == 6 ? "turn " + draw(12) : w == 7 ? "spot " + draw(6)
                : oneOf("pace", "next", "side", "done", "ended", "hedges");
        }
        return oneOf("turn", "long", "camber", "chair", "rest", "lean", "bars", "skill", "weight", "spot", "alive", "mood");
    }

    private String term(boolean orders, int deep) {
        String t = part(orders, deep);
        for (int n = draw(6) / 3; n > 0; n--) {
            t += oneOf("*", "/", "%", " * ") + part(orders, deep);
        }
        return t;
    }

    private String sum(boolean orders, int deep) {
        String t = term(orders, deep);
        for (int n = draw(6) / 3; n > 0; n--) {
            t += oneOf("+", "-", " - ") + term(orders, deep);
        }
        return t;
    }

    private String plain(boolean orders, int deep) {
        if (draw(6) == 0) {
            return "not " + plain(orders, deep);
        }
        if (draw(6) == 0 && deep < 3) {
            return "(" + test(orders, deep + 1) + ")";
        }
        return sum(orders, deep) + oneOf("<", ">", "=", " < ") + sum(orders, deep);
    }

    private String test(boolean orders, int deep) {
        String t = plain(orders, deep);
        for (int n = draw(5) / 2; n > 0; n--) {
            t += oneOf(" and ", " or ", " or ") + plain(orders, deep);
        }
        return t;
    }

    private String lawClause() {
        String c;
        switch (draw(8)) {
            case 0:
                c = "holds " + oneOf("", "900+", "3000-", "chair*20+", "long*30+") + sum(false, 0);
                break;
            case 1:
                c = "grips " + oneOf("", "900+", "3000-", "rest*10-lean+", "skill*30+") + sum(false, 0);
                break;
            case 2:
                c = "fears " + oneOf("", "20+", "60-", "skill+", "30+mood+") + sum(false, 0);
                break;
            case 3:
                c = "pulls " + oneOf("", "bars+", "camber*9-bars+", "bars*mood-", "0-") + sum(false, 0);
                break;
            case 4:
                c = "learns " + oneOf("", "long/10+", "1+", "[100-skill]/9+") + sum(false, 0);
                break;
            case 5:
                return "bans if " + oneOf("spot=" + draw(4), "weight>" + draw(200), "alive=1 and spot>1", "turn+1=0 and spot=3",
                    "skill<10 and spot=1", test(false, 0));
            case 6:
                c = oneOf("holds", "grips") + " " + oneOf("1200", "5000", "900", "30+chair*9+lean", "2000-lean", "lean*lean/9");
                break;
            default:
                return draw(6) == 0 ? "bans" : oneOf("fears 30 if long<50", "holds 1 if weight+1=0 and spot=alive",
                    "learns 2", "fears 45-mood*3", "pulls bars*bars-30");
        }
        return draw(2) == 0 ? c : c + " if " + test(false, 0);
    }

    private String orderClause() {
        String c;
        switch (draw(7)) {
            case 0:
                c = "gas " + oneOf("1", "5", "10", "done+1", "1+next", sum(true, 0));
                break;
            case 1:
                c = "brake " + oneOf("1", "5", "20", "pace", sum(true, 0));
                break;
            case 2:
                c = "lane " + oneOf("1", "0", "2", "[side+1]%3", sum(true, 0));
                break;
            case 3:
                c = "put " + oneOf("0", "1", "2", sum(true, 0)) + " at " + oneOf("0", "1", "2", "3", "spot 1", sum(true, 0));
                break;
            case 4:
                c = "lean " + oneOf("0", "1", "2", sum(true, 0)) + " by " + oneOf("0", "0-1", "2", "0-2", sum(true, 0));
                break;
            default:
                c = "ride";
        }
        if (draw(3) == 0) {
            c += " times " + (1 + draw(draw(3) == 0 ? 20 : 5));
        }
        if (draw(3) == 0) {
            c += " if " + oneOf("pace>0", "pace=0", "ended=0", "turn 0>0", "hedges<9", "done%2=0", test(true, 0));
        }
        return c;
    }

    private String text(boolean orders) {
        StringBuilder t = new StringBuilder(orders ? orderClause() : lawClause());
        for (int n = draw(draw(8) == 0 ? 14 : 5); n > 0; n--) {
            t.append(oneOf(";", "; ", " ;  ")).append(orders ? orderClause() : lawClause());
        }
        if (draw(5) == 0) {
            for (int n = 1 + draw(2); n > 0 && t.length() > 0; n--) {
                int k = draw(t.length());
                switch (draw(4)) {
                    case 0:
                        t.deleteCharAt(k);
                        break;
                    case 1:
                        t.insert(k, oneOf(" ", "(", ")", "[", "]", "1", "a", ";", "not ", "if ", "9", "A", "\u00ff", "\t"));
                        break;
                    case 2:
                        t.setCharAt(k, (char) draw(256));
                        break;
                    default:
                        t.setLength(k);
                }
            }
        }
        return t.length() > 400 ? t.substring(0, 400) : t.toString();
    }

    private void write(String text) {
        both("end", 0);
        for (int i = 0; i < text.length(); i += 20) {
            both("feed", Check.four(text, i), Check.four(text, i + 4), Check.four(text, i + 8), Check.four(text, i + 12),
                Check.four(text, i + 16));
        }
        both("end", text.length());
        log.add("\"" + text + "\"");
    }

    // ---- calls ----

    private void both(String call, int... a) {
        if (!same || calls == MOST_CALLS) {
            return;
        }
        calls++;
        int got = ofClass(call, a);
        int want = ofOracle(call, a);
        log.add(call + java.util.Arrays.toString(a) + " " + want);
        Check.due(call + java.util.Arrays.toString(a), got, want);
        if (got != want) {
            same = false;
            log.forEach(System.out::println);
        }
    }

    private int ofClass(String call, int[] a) {
        switch (call) {
            case "load": return x.load(a[0], a[1], a[2]);
            case "of": return x.of(a[0], a[1]);
            case "bend": return x.bend(a[0], a[1], a[2], a[3]);
            case "clear": return x.clear();
            case "at": return x.at(a[0], a[1]);
            case "bars": return x.bars(a[0]);
            case "terms": return x.terms(a[0], a[1]);
            case "feed": return x.feed(a[0], a[1], a[2], a[3], a[4]);
            case "end": return x.end(a[0]);
            case "row": return x.row();
            case "mud": return x.mud();
            case "law": return x.law();
            case "orders": return x.orders();
            case "fault": return x.fault();
            case "stopped": return x.stopped();
            case "force": return x.force(a[0]);
            case "gas": return x.gas(a[0]);
            case "brake": return x.brake(a[0]);
            case "lane": return x.lane(a[0]);
            case "put": return x.put(a[0], a[1]);
            case "lean": return x.lean(a[0], a[1]);
            case "ride": return x.ride();
            case "undo": return x.undo();
            case "goes": return x.goes(a[0], a[1]);
            case "quick": return x.quick(a[0], a[1]);
            case "soonest": return x.soonest(a[0]);
            case "lanes": return x.lanes(a[0]);
            case "leaning": return x.leaning(a[0], a[1]);
            case "putting": return x.putting(a[0]);
            case "setting": return x.setting(a[0]);
            case "learning": return x.learning();
            case "sight": return x.sight(a[0], a[1], a[2]);
            case "forget": return x.forget();
            case "aboard": return x.aboard(a[0]);
            case "days": return x.days(a[0], a[1]);
            case "drawn": return x.drawn(a[0]);
            case "image": return x.image(a[0]);
            case "back": return x.back(a[0]);
            case "count": return x.count(a[0]);
            default: return x.status();
        }
    }

    private int ofOracle(String call, int[] a) {
        switch (call) {
            case "load": return o.load(a[0], a[1], a[2]);
            case "of": return o.of(a[0], a[1]);
            case "bend": return o.bend(a[0], a[1], a[2], a[3]);
            case "clear": return o.clear();
            case "at": return o.at(a[0], a[1]);
            case "bars": return o.bars(a[0]);
            case "terms": return o.terms(a[0], a[1]);
            case "feed": return o.feed(a);
            case "end": return o.end(a[0]);
            case "row": return o.row();
            case "mud": return o.mud();
            case "law": return o.law();
            case "orders": return o.orders();
            case "fault": return o.fault();
            case "stopped": return o.stopped();
            case "force": return o.force(a[0]);
            case "gas": return o.gas(a[0]);
            case "brake": return o.brake(a[0]);
            case "lane": return o.lane(a[0]);
            case "put": return o.put(a[0], a[1]);
            case "lean": return o.lean(a[0], a[1]);
            case "ride": return o.ride();
            case "undo": return o.undo();
            case "goes": return o.goes(a[0], a[1]);
            case "quick": return o.quick(a[0], a[1]);
            case "soonest": return o.soonest(a[0]);
            case "lanes": return o.lanes(a[0]);
            case "leaning": return o.leaning(a[0], a[1]);
            case "putting": return o.putting(a[0]);
            case "setting": return o.setting(a[0]);
            case "learning": return o.learning();
            case "sight": return o.sight(a[0], a[1], a[2]);
            case "forget": return o.forget();
            case "aboard": return o.aboard(a[0]);
            case "days": return o.days(a[0], a[1]);
            case "drawn": return o.drawn(a[0]);
            case "image": return o.image(a[0]);
            case "back": return o.back(a[0]);
            case "count": return o.count(a[0]);
            default: return o.status();
        }
    }

    private int someBend() {
        return value(0, Math.max(0, o.count(1) - 1));
    }

    private int someLoad() {
        return value(0, Math.max(0, o.count(0) - 1));
    }

    private void build() {
        switch (draw(14)) {
            case 0:
            case 1:
            case 2:
                if (o.count(0) < 4 || draw(4) == 0) {
                    both("load", draw(3) == 0 ? value(0, 200) : draw(90), value(0, 3), value(0, 1));
                }
                break;
            case 3:
            case 4:
            case 5:
                both("bend", value(-9, 9), value(1, 99), value(-3, 3), value(0, 31));
                break;
            case 6:
                if (draw(6) == 0) {
                    both("clear");
                }
                break;
            case 7:
                both("bars", value(-9, 9));
                break;
            case 8:
                both("terms", value(0, 2), draw(3) == 0 ? value(0, 9) : value(1, 60));
                break;
            case 9:
                rowOfBytes();
                break;
            case 10:
            case 11:
                if (o.count(3) == 6 && draw(3) > 0) {
                    both("back", draw(2));
                }
                write(text(false));
                both("law");
                both("fault");
                break;
            default:
                both("force", value(-1, Math.max(0, o.count(3) - 1)));
        }
    }

    private void rowOfBytes() {
        StringBuilder t = new StringBuilder();
        for (int n = draw(4); n > 0; n--) {
            t.append((char) (draw(20))).append((char) (draw(101))).append((char) (draw(8))).append((char) (draw(33)));
        }
        if (draw(3) == 0) {
            t.append((char) draw(256));
        }
        write(t.toString());
        both("row");
        both("mud");
    }

    private void steer() {
        switch (draw(16)) {
            case 0:
            case 1:
            case 2:
                both("gas", draw(3) == 0 ? value(1, o.count(18)) : value(1, Math.min(9, o.count(18))));
                break;
            case 3:
                both("brake", value(1, o.count(19)));
                break;
            case 4:
                both("lane", value(0, 2));
                break;
            case 5:
                if (draw(3) == 0 && o.count(13) > 0) {
                    both("brake", Math.min(o.count(19), o.count(13)));
                }
                both("put", someLoad(), value(0, 3));
                break;
            case 6:
                both("lean", someLoad(), value(-2, 2));
                break;
            case 7:
            case 8:
            case 9:
                both("ride");
                break;
            case 10:
            case 11:
                both("undo");
                break;
            case 12:
                both("days", draw(2) == 0 ? value(0, 1000000) : draw(1000), value(1, draw(2) == 0 ? 100 : 9));
                for (int i = -1; i <= 4; i++) {
                    both("drawn", i);
                }
                break;
            default:
                write(text(true));
                both("orders");
                both("fault");
                both("stopped");
        }
    }

    private void ask() {
        int bend = someBend();
        switch (draw(12)) {
            case 0:
                both("at", bend, value(0, 8));
                break;
            case 1:
                both("of", someLoad(), value(0, 7));
                break;
            case 2:
                both("goes", bend, value(1, 60));
                break;
            case 3:
                both("quick", bend, value(0, 1));
                break;
            case 4:
                for (int i = -2; i <= o.count(1); i++) {
                    both("soonest", i);
                }
                break;
            case 5:
                for (int i = -1; i <= o.count(1) + 2; i++) {
                    both("lanes", i);
                }
                break;
            case 6:
                if (o.count(0) < 5 || hard++ < 2) {
                    for (int i = -1; i <= Math.min(3, o.count(0) + 1); i++) {
                        both("leaning", bend, i);
                    }
                }
                break;
            case 7:
                if (o.count(0) < 5 || hard++ < 2) {
                    for (int i = -2; i <= Math.min(3, o.count(0)); i++) {
                        both("putting", i);
                    }
                }
                break;
            case 8:
                both("setting", value(0, 1));
                break;
            case 9:
                both("learning");
                break;
            case 10:
                both("sight", bend, value(1, 60), value(0, 1));
                for (int i = -2; i < 4; i++) {
                    both("aboard", i);
                }
                if (draw(3) == 0) {
                    both("forget");
                }
                break;
            default:
                both("aboard", value(-1, 9));
        }
    }

    private void keep() {
        switch (draw(6)) {
            case 0:
                both("image", value(0, 1));
                break;
            case 1:
                both("back", value(0, 1));
                break;
            case 2:
                both("feed", draw(1 << 30), draw(1 << 30), -draw(1 << 30), draw(1 << 30), draw(1 << 30));
                break;
            case 3:
                both("end", value(0, 20));
                break;
            case 4:
                both(oneOf("law", "orders", "row"));
                break;
            default:
                both("count", value(0, 20));
        }
    }

    private void run() {
        x = new ThreeWheels();
        o = new Oracle();
        log.clear();
        same = true;
        calls = 0;
        hard = 0;
        for (int n = 0; calls < MOST_CALLS - LAST_COUNTS && same; n++) {
            int k = draw(10);
            if (n < 12 || k < 2) {
                build();
            } else if (k < 6) {
                steer();
            } else if (k < 9) {
                ask();
            } else {
                keep();
            }
            both("status");
            both("count", n % 21);
        }
        for (int i = -1; i <= 21; i++) {
            both("count", i);
        }
    }

    public static void main(String[] args) {
        int runs = args.length > 0 ? Integer.parseInt(args[0]) : RUNS;
        int from = args.length > 1 ? Integer.parseInt(args[1]) : 0;
        for (int run = from; run < from + runs && Check.wrong() == 0; run++) {
            new OracleTest(run).run();
        }
        Check.finish("OracleTest");
    }
}
