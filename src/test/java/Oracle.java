import java.util.ArrayList;
import java.util.Arrays;
import java.util.List;

/**
 * The document told a second time, as slowly and plainly as can be: whole copies for undo and images, trees for
 * texts, exceptions for what is broken, and every row of paces, leans and spots compared with every other.
 */
final class Oracle {
    static final class Broken extends RuntimeException {
        private static final long serialVersionUID = 1;
    }

    static final class Fault extends RuntimeException {
        private static final long serialVersionUID = 1;
        final int place;

        Fault(int place) {
            this.place = place;
        }
    }

    static final class Load implements Cloneable {
        int weight;
        int spot;
        int lean;
        boolean alive;

        Load same() {
            Load l = new Load();
            l.weight = weight;
            l.spot = spot;
            l.lean = lean;
            l.alive = alive;
            return l;
        }
    }

    /** All that an image keeps. */
    static final class World {
        List<Load> loads = new ArrayList<>();
        List<int[]> road = new ArrayList<>();
        List<int[]> sights = new ArrayList<>();
        List<List<Clause>> laws = new ArrayList<>();
        int force = -1;
        int bars;
        int lane;
        int at;
        int pace;
        int hedges;
        int skill;
        int[] terms = {10, 20, 0};

        World same() {
            World w = new World();
            for (Load l : loads) {
                w.loads.add(l.same());
            }
            w.road.addAll(road);
            w.sights.addAll(sights);
            w.laws.addAll(laws);
            w.force = force;
            w.bars = bars;
            w.lane = lane;
            w.at = at;
            w.pace = pace;
            w.hedges = hedges;
            w.skill = skill;
            w.terms = terms.clone();
            return w;
        }
    }

    static final class Clause {
        String word;
        Node first;
        Node second;
        Node test;
        int times = 1;
    }

    static final class Node {
        String op;
        int number;
        Node a;
        Node b;

        Node(String op, Node a, Node b) {
            this.op = op;
            this.a = a;
            this.b = b;
        }
    }

    interface Words {
        long value(String word, int number);
    }

    World w = new World();
    World[] images = new World[2];
    List<World> past = new ArrayList<>();
    List<Integer> pastKinds = new ArrayList<>();
    List<Integer> tape = new ArrayList<>();
    int faultAt = -1;
    int stoppedAt = -1;
    int mudSeen;
    int[] latestDay;
    int status;
    int[] refused = new int[10];

    // ---- reading ----

    static final class Token {
        String text;
        int place;
    }

    static final class Reader {
        final List<Token> tokens = new ArrayList<>();
        final boolean orders;
        int next;
        int parts;

        Reader(List<Integer> tape, boolean orders) {
            this.orders = orders;
            StringBuilder all = new StringBuilder();
            for (int b : tape) {
                all.append((char) b);
            }
            java.util.regex.Matcher m = java.util.regex.Pattern.compile("[a-z]+|[0-9]+|[^ ]", java.util.regex.Pattern.DOTALL).matcher(all);
            while (m.find()) {
                Token t = new Token();
                t.text = m.group();
                t.place = m.start();
                tokens.add(t);
            }
            Token end = new Token();
            end.text = "";
            end.place = all.length();
            tokens.add(end);
        }

        String see() {
            return tokens.get(next).text;
        }

        Fault bad() {
            return new Fault(tokens.get(next).place);
        }

        boolean take(String t) {
            if (see().equals(t)) {
                next++;
                return true;
            }
            return false;
        }

        void need(String t) {
            if (!take(t)) {
                throw bad();
            }
        }

        boolean isNumber() {
            return !see().isEmpty() && see().charAt(0) >= '0' && see().charAt(0) <= '9';
        }

        int number(int low, int high) {
            if (!isNumber()) {
                throw bad();
            }
            java.math.BigInteger n = new java.math.BigInteger(see());
            if (n.compareTo(java.math.BigInteger.valueOf(low)) < 0 || n.compareTo(java.math.BigInteger.valueOf(high)) > 0) {
                throw bad();
            }
            next++;
            return n.intValue();
        }

        List<Clause> text() {
            List<Clause> all = new ArrayList<>();
            do {
                if (all.size() == 12) {
                    throw bad();
                }
                all.add(clause());
            } while (take(";"));
            if (!see().isEmpty()) {
                throw bad();
            }
            return all;
        }

        Clause clause() {
            Clause c = new Clause();
            c.word = see();
            if (orders) {
                switch (c.word) {
                    case "gas":
                    case "brake":
                    case "lane":
                        next++;
                        c.first = sum(0);
                        break;
                    case "put":
                        next++;
                        c.first = sum(0);
                        need("at");
                        c.second = sum(0);
                        break;
                    case "lean":
                        next++;
                        c.first = sum(0);
                        need("by");
                        c.second = sum(0);
                        break;
                    case "ride":
                        next++;
                        break;
                    default:
                        throw bad();
                }
                if (take("times")) {
                    c.times = number(1, 20);
                }
            } else {
                if (c.word.equals("bans")) {
                    next++;
                } else if (Arrays.asList("holds", "grips", "fears", "pulls", "learns").contains(c.word)) {
                    next++;
                    c.first = sum(0);
                } else {
                    throw bad();
                }
            }
            if (take("if")) {
                c.test = test(0);
            }
            return c;
        }

        Node test(int deep) {
            Node n = both(deep);
            while (take("or")) {
                n = new Node("or", n, both(deep));
            }
            return n;
        }

        Node both(int deep) {
            Node n = plain(deep);
            while (take("and")) {
                n = new Node("and", n, plain(deep));
            }
            return n;
        }

        Node plain(int deep) {
            if (take("not")) {
                return new Node("not", plain(deep), null);
            }
            if (see().equals("(")) {
                if (deep == 8) {
                    throw bad();
                }
                next++;
                Node n = test(deep + 1);
                need(")");
                return n;
            }
            Node a = sum(deep);
            String op = see();
            if (!op.equals("<") && !op.equals(">") && !op.equals("=")) {
                throw bad();
            }
            next++;
            return new Node(op, a, sum(deep));
        }

        Node sum(int deep) {
            Node n = term(deep);
            while (see().equals("+") || see().equals("-")) {
                String op = see();
                next++;
                n = new Node(op, n, term(deep));
            }
            return n;
        }

        Node term(int deep) {
            Node n = part(deep);
            while (see().equals("*") || see().equals("/") || see().equals("%")) {
                String op = see();
                next++;
                n = new Node(op, n, part(deep));
            }
            return n;
        }

        Node part(int deep) {
            if (see().equals("[")) {
                if (deep == 8) {
                    throw bad();
                }
                next++;
                Node n = sum(deep + 1);
                need("]");
                return n;
            }
            if (parts == 50) {
                throw bad();
            }
            Node n = new Node("number", null, null);
            if (isNumber()) {
                n.number = number(0, 1000);
                parts++;
                return n;
            }
            List<String> plainWords = orders
                ? Arrays.asList("pace", "next", "side", "done", "ended", "hedges", "turn", "spot")
                : Arrays.asList("turn", "long", "camber", "chair", "rest", "lean", "bars", "skill", "weight", "spot",
                    "alive", "mood");
            if (!plainWords.contains(see())) {
                throw bad();
            }
            n.op = "word " + see();
            next++;
            parts++;
            if (orders && n.op.equals("word turn")) {
                n.number = number(0, 11);
            }
            if (orders && n.op.equals("word spot")) {
                n.number = number(0, 5);
            }
            return n;
        }
    }

    static long sum(Node n, Words words) {
        if (n.op.equals("number")) {
            return n.number;
        }
        if (n.op.startsWith("word ")) {
            return words.value(n.op.substring(5), n.number);
        }
        long a = sum(n.a, words);
        long b = sum(n.b, words);
        long v;
        switch (n.op) {
            case "+":
                v = a + b;
                break;
            case "-":
                v = a - b;
                break;
            case "*":
                v = a * b;
                break;
            default:
                if (b == 0) {
                    throw new Broken();
                }
                v = n.op.equals("/") ? a / b : a - a / b * b;
        }
        if (Math.abs(v) > 1000000000L) {
            throw new Broken();
        }
        return v;
    }

    static boolean test(Node n, Words words) {
        switch (n.op) {
            case "or":
                return test(n.a, words) || test(n.b, words);
            case "and":
                return test(n.a, words) && test(n.b, words);
            case "not":
                return !test(n.a, words);
            case "<":
                return sum(n.a, words) < sum(n.b, words);
            case ">":
                return sum(n.a, words) > sum(n.b, words);
            default:
                return sum(n.a, words) == sum(n.b, words);
        }
    }

    static boolean isSo(Clause c, Words words) {
        try {
            return c.test == null || test(c.test, words);
        } catch (Broken b) {
            return false;
        }
    }

    // ---- what a law says ----

    /** What the law's latest clause of that word says, or null. */
    static Long told(World w, String word, Words words) {
        Long said = null;
        if (w.force >= 0) {
            for (Clause c : w.laws.get(w.force)) {
                if (c.word.equals(word) && isSo(c, words)) {
                    try {
                        said = sum(c.first, words);
                    } catch (Broken b) {
                        continue;
                    }
                }
            }
        }
        return said;
    }

    static int chair(World w) {
        return w.loads.stream().filter(l -> l.spot == 2 || l.spot == 3).mapToInt(l -> l.weight).sum();
    }

    static int rest(World w) {
        return w.loads.stream().filter(l -> l.spot == 0 || l.spot == 1).mapToInt(l -> l.weight).sum();
    }

    static int leaned(World w) {
        return w.loads.stream().filter(l -> l.alive).mapToInt(l -> l.weight * l.lean).sum();
    }

    static Words ofBend(World w, int[] bend) {
        int chair = chair(w);
        int rest = rest(w);
        int leaned = leaned(w);
        return (word, n) -> {
            switch (word) {
                case "turn":
                    return bend[0];
                case "long":
                    return bend[1];
                case "camber":
                    return bend[2];
                case "chair":
                    return chair;
                case "rest":
                    return rest;
                case "lean":
                    return leaned;
                case "bars":
                    return w.bars;
                case "skill":
                    return w.skill;
                case "mood":
                    return w.terms[2];
                default:
                    return -1;
            }
        };
    }

    static int between(long v, int low, int high) {
        return (int) (v < low ? low : v > high ? high : v);
    }

    static int holds(World w, int[] bend) {
        Long said = told(w, "holds", ofBend(w, bend));
        return said != null ? between(said, 0, 99999) : Math.max(0, 600 + 20 * chair(w) + leaned(w));
    }

    static int grips(World w, int[] bend) {
        Long said = told(w, "grips", ofBend(w, bend));
        return said != null ? between(said, 0, 99999) : Math.max(0, 2000 + 10 * rest(w) - leaned(w));
    }

    static int feared(World w, int[] bend) {
        Long said = told(w, "fears", ofBend(w, bend));
        return said != null ? between(said, 0, 60) : 60;
    }

    static int pulls(World w, int[] bend) {
        Long said = told(w, "pulls", ofBend(w, bend));
        return said != null ? between(said, -99, 99) : bend[2] * 5 + chair(w) / 20 - w.bars;
    }

    static int learns(World w, int[] bend) {
        Long said = told(w, "learns", ofBend(w, bend));
        return said != null ? between(said, 0, 100) : bend[1] / 10;
    }

    static boolean barred(World w, int weight, int spot, int alive) {
        if (w.force < 0) {
            return false;
        }
        Words words = (word, n) -> {
            switch (word) {
                case "weight":
                    return weight;
                case "spot":
                    return spot;
                case "alive":
                    return alive;
                case "bars":
                    return w.bars;
                case "skill":
                    return w.skill;
                case "mood":
                    return w.terms[2];
                default:
                    return -1;
            }
        };
        for (Clause c : w.laws.get(w.force)) {
            if (c.word.equals("bans") && isSo(c, words)) {
                return true;
            }
        }
        return false;
    }

    static int ends(World w, int[] bend, int pace) {
        int push = bend[0] * pace * pace;
        if (bend[0] > 0 && push > grips(w, bend)) {
            return 2;
        }
        if (bend[0] < 0 && -push > holds(w, bend)) {
            return 1;
        }
        return 0;
    }

    static int quickest(World w, int[] bend) {
        int feared = feared(w, bend);
        int limit = bend[0] > 0 ? grips(w, bend) : bend[0] < 0 ? holds(w, bend) : 0;
        int found = 0;
        for (int p = 1; p <= 60; p++) {
            if (p <= feared && (bend[0] == 0 || Math.abs(bend[0]) * p * p <= limit)) {
                found = p;
            }
        }
        return found;
    }

    static int ridden(World w) {
        int[] bend = w.road.get(w.at);
        int how = ends(w, bend, w.pace);
        if (how == 0) {
            w.skill = Math.min(100, w.skill + learns(w, bend));
        } else {
            w.hedges++;
            w.pace = 0;
        }
        w.at = (w.at + 1) % w.road.size();
        return how;
    }

    // ---- the face ----

    int settle(int answer) {
        status = answer < 0 ? answer : 0;
        if (answer < 0) {
            refused[-answer]++;
        }
        return answer;
    }

    boolean has(List<?> list, int i) {
        return i >= 0 && i < list.size();
    }

    void forgetPast() {
        past.clear();
        pastKinds.clear();
    }

    int load(int weight, int spot, int alive) {
        if (weight < 0 || weight > 200 || spot < 0 || spot > 3 || alive < 0 || alive > 1) {
            return settle(-1);
        }
        if (barred(w, weight, spot, alive)) {
            return settle(-3);
        }
        if (w.loads.size() == 6) {
            return settle(-5);
        }
        Load l = new Load();
        l.weight = weight;
        l.spot = spot;
        l.alive = alive == 1;
        w.loads.add(l);
        forgetPast();
        return settle(w.loads.size() - 1);
    }

    int of(int load, int what) {
        if (!has(w.loads, load) || what < 0 || what > 7) {
            return -1000;
        }
        Load l = w.loads.get(load);
        int alive = l.alive ? 1 : 0;
        return what == 0 ? l.weight : what == 1 ? l.spot : what == 2 ? alive : what == 3 ? l.lean
            : barred(w, l.weight, what - 4, alive) ? 1 : 0;
    }

    static boolean bendCanBe(int turn, int length, int camber, int holes) {
        return turn >= -9 && turn <= 9 && length >= 1 && length <= 99 && camber >= -3 && camber <= 3 && holes >= 0
            && holes <= 31;
    }

    int bend(int turn, int length, int camber, int holes) {
        if (!bendCanBe(turn, length, camber, holes)) {
            return settle(-1);
        }
        if (w.road.size() == 12) {
            return settle(-5);
        }
        w.road.add(new int[] {turn, length, camber, holes});
        forgetPast();
        return settle(w.road.size() - 1);
    }

    int clear() {
        if (w.road.isEmpty()) {
            return settle(-3);
        }
        int had = w.road.size();
        w.road.clear();
        w.sights.clear();
        w.at = 0;
        forgetPast();
        return settle(had);
    }

    int at(int bend, int what) {
        if (!has(w.road, bend) || what < 0 || what > 8) {
            return -1000;
        }
        int[] b = w.road.get(bend);
        switch (what) {
            case 4:
                return holds(w, b);
            case 5:
                return grips(w, b);
            case 6:
                return feared(w, b);
            case 7:
                return pulls(w, b);
            case 8:
                return learns(w, b);
            default:
                return b[what];
        }
    }

    int bars(int value) {
        if (value < -9 || value > 9) {
            return settle(-1);
        }
        int was = w.bars + 9;
        w.bars = value;
        return settle(was);
    }

    int terms(int what, int value) {
        if (what < 0 || what > 2 || value < (what == 2 ? 0 : 1) || value > (what == 2 ? 9 : 60)) {
            return settle(-1);
        }
        int was = w.terms[what];
        w.terms[what] = value;
        return settle(was);
    }

    int feed(int... five) {
        if (tape.size() > 380) {
            return -1;
        }
        for (int v : five) {
            for (byte b : java.nio.ByteBuffer.allocate(4).putInt(v).array()) {
                tape.add(b & 255);
            }
        }
        return tape.size();
    }

    int end(int n) {
        if (n < 0 || n > tape.size()) {
            return -1;
        }
        tape = new ArrayList<>(tape.subList(0, n));
        return n;
    }

    int row() {
        if (tape.isEmpty()) {
            return settle(-6);
        }
        int came = 0;
        mudSeen = 0;
        for (int i = 0; i < tape.size(); i += 4) {
            if (i + 4 <= tape.size() && w.road.size() < 12
                && bendCanBe(tape.get(i) - 9, tape.get(i + 1), tape.get(i + 2) - 3, tape.get(i + 3))) {
                w.road.add(new int[] {tape.get(i) - 9, tape.get(i + 1), tape.get(i + 2) - 3, tape.get(i + 3)});
                came++;
            } else {
                mudSeen++;
            }
        }
        tape.clear();
        forgetPast();
        return settle(came);
    }

    int mud() {
        return mudSeen;
    }

    List<Clause> read(boolean orders) {
        try {
            List<Clause> text = new Reader(tape, orders).text();
            faultAt = -1;
            return text;
        } catch (Fault f) {
            faultAt = f.place;
            return null;
        } finally {
            tape.clear();
        }
    }

    int law() {
        if (w.laws.size() == 6) {
            tape.clear();
            return settle(-5);
        }
        List<Clause> text = read(false);
        if (text == null) {
            return settle(-6);
        }
        w.laws.add(text);
        return settle(w.laws.size() - 1);
    }

    int orders() {
        List<Clause> text = read(true);
        stoppedAt = -1;
        if (text == null) {
            return settle(-6);
        }
        World ahead = w.same();
        List<World> aheadPast = new ArrayList<>(past);
        List<Integer> aheadKinds = new ArrayList<>(pastKinds);
        int[] doneEnded = {0, -1};
        for (int i = 0; i < text.size(); i++) {
            for (int k = 0; k < text.get(i).times; k++) {
                if (!runOnce(text.get(i), doneEnded)) {
                    w = ahead;
                    past = aheadPast;
                    pastKinds = aheadKinds;
                    stoppedAt = i;
                    return settle(-3);
                }
            }
        }
        return settle(doneEnded[0]);
    }

    boolean runOnce(Clause c, int[] doneEnded) {
        Words words = (word, n) -> {
            switch (word) {
                case "pace":
                    return w.pace;
                case "next":
                    return w.at;
                case "side":
                    return w.lane;
                case "done":
                    return doneEnded[0];
                case "ended":
                    return doneEnded[1];
                case "hedges":
                    return w.hedges;
                case "turn":
                    return has(w.road, n) ? w.road.get(n)[0] : -10;
                default:
                    return has(w.loads, n) ? w.loads.get(n).spot : -10;
            }
        };
        if (!isSo(c, words)) {
            return true;
        }
        int answer;
        try {
            int a = c.first == null ? 0 : (int) sum(c.first, words);
            int b = c.second == null ? 0 : (int) sum(c.second, words);
            answer = act(c.word, a, b);
        } catch (Broken broken) {
            return false;
        }
        if (answer < 0) {
            return false;
        }
        doneEnded[0]++;
        if (c.word.equals("ride")) {
            doneEnded[1] = answer;
        }
        return true;
    }

    int act(String word, int a, int b) {
        World ahead = w.same();
        int answer = tryAct(word, a, b);
        if (answer >= 0) {
            past.add(ahead);
            pastKinds.add(Arrays.asList("gas", "brake", "lane", "put", "lean", "ride").indexOf(word));
            if (past.size() > 16) {
                past.remove(0);
                pastKinds.remove(0);
            }
        }
        return answer;
    }

    int tryAct(String word, int a, int b) {
        int was;
        switch (word) {
            case "gas":
                if (a < 1 || a > w.terms[0]) {
                    return -1;
                }
                w.pace = Math.min(60, w.pace + a);
                return w.pace;
            case "brake":
                if (a < 1 || a > w.terms[1]) {
                    return -1;
                }
                w.pace = Math.max(0, w.pace - a);
                return w.pace;
            case "lane":
                if (a < 0 || a > 2) {
                    return -1;
                }
                if (a == w.lane + 2 || a == w.lane - 2) {
                    return -3;
                }
                was = w.lane;
                w.lane = a;
                return was;
            case "put":
                if (b < 0 || b > 3) {
                    return -1;
                }
                if (!has(w.loads, a)) {
                    return -2;
                }
                Load moved = w.loads.get(a);
                if (w.pace > 0 || barred(w, moved.weight, b, moved.alive ? 1 : 0)) {
                    return -3;
                }
                was = moved.spot;
                moved.spot = b;
                return was;
            case "lean":
                if (b < -2 || b > 2) {
                    return -1;
                }
                if (!has(w.loads, a)) {
                    return -2;
                }
                Load bent = w.loads.get(a);
                if (!bent.alive) {
                    return -3;
                }
                was = bent.lean;
                bent.lean = b;
                return was + 2;
            default:
                return w.pace == 0 || w.road.isEmpty() ? -3 : ridden(w);
        }
    }

    int fault() {
        return faultAt;
    }

    int stopped() {
        return stoppedAt;
    }

    int force(int law) {
        if (law != -1 && !has(w.laws, law)) {
            return settle(-2);
        }
        int was = w.force;
        w.force = law;
        status = 0;
        return was;
    }

    int gas(int by) {
        return settle(act("gas", by, 0));
    }

    int brake(int by) {
        return settle(act("brake", by, 0));
    }

    int lane(int value) {
        return settle(act("lane", value, 0));
    }

    int put(int load, int spot) {
        return settle(act("put", load, spot));
    }

    int lean(int load, int value) {
        return settle(act("lean", load, value));
    }

    int ride() {
        return settle(act("ride", 0, 0));
    }

    int undo() {
        if (past.isEmpty()) {
            return settle(-3);
        }
        World was = past.remove(past.size() - 1);
        w.loads = was.loads;
        w.lane = was.lane;
        w.at = was.at;
        w.pace = was.pace;
        w.hedges = was.hedges;
        w.skill = was.skill;
        return settle(pastKinds.remove(pastKinds.size() - 1));
    }

    int goes(int bend, int pace) {
        return has(w.road, bend) && pace >= 1 && pace <= 60 ? ends(w, w.road.get(bend), pace) : -1;
    }

    static int time(int[] bend, int pace) {
        return bend[1] * 60 / pace;
    }

    int quick(int bend, int what) {
        if (!has(w.road, bend) || what < 0 || what > 1) {
            return -1;
        }
        int p = quickest(w, w.road.get(bend));
        return what == 0 ? p : p == 0 ? 0 : time(w.road.get(bend), p);
    }

    static boolean isLess(int[] a, int[] b) {
        for (int i = 0; i < a.length; i++) {
            if (a[i] != b[i]) {
                return a[i] < b[i];
            }
        }
        return false;
    }

    /** A row with one number more behind it, and what it costs on top. */
    static int[] longer(int[] row, int number, int... costs) {
        int[] made = Arrays.copyOf(row, row.length + 1);
        for (int i = 0; i < costs.length; i++) {
            made[i] += costs[i];
        }
        made[row.length] = number;
        return made;
    }

    int soonest(int i) {
        int n = w.road.size();
        // Forward: for each pace the best row to there, as (times, pace, pace ..).
        int[][] rows = new int[61][];
        for (int b = 0; b < n; b++) {
            int q = quickest(w, w.road.get(b));
            int[][] next = new int[61][];
            for (int p = 1; p <= q; p++) {
                if (b == 0) {
                    next[p] = new int[] {time(w.road.get(b), p), p};
                    continue;
                }
                for (int from = 1; from <= 60; from++) {
                    if (rows[from] == null || p > from + w.terms[0] || p < from - w.terms[1]) {
                        continue;
                    }
                    int[] row = longer(rows[from], p, time(w.road.get(b), p));
                    if (next[p] == null || isLess(row, next[p])) {
                        next[p] = row;
                    }
                }
            }
            rows = next;
        }
        int[] best = n == 0 ? new int[] {0} : null;
        for (int[] row : rows) {
            if (row != null && (best == null || isLess(row, best))) {
                best = row;
            }
        }
        return best == null || i < -1 || i >= n ? -1 : best[i + 1];
    }

    int lanes(int what) {
        int n = w.road.size();
        int[][] rows = new int[3][];
        rows[w.lane] = new int[] {0, 0};
        for (int b = 0; b < n; b++) {
            int[][] next = new int[3][];
            for (int lane = 0; lane < 3; lane++) {
                int under = 0;
                for (int track = lane; track < lane + 3; track++) {
                    under += (w.road.get(b)[3] & 1 << track) != 0 ? 1 : 0;
                }
                for (int from = 0; from < 3; from++) {
                    if (rows[from] == null || Math.abs(from - lane) > 1) {
                        continue;
                    }
                    int[] row = longer(rows[from], lane, under, from == lane ? 0 : 1);
                    if (next[lane] == null || isLess(row, next[lane])) {
                        next[lane] = row;
                    }
                }
            }
            rows = next;
        }
        int[] best = null;
        for (int[] row : rows) {
            if (row != null && (best == null || isLess(row, best))) {
                best = row;
            }
        }
        return what < 0 || what > n + 1 ? -1 : best[what];
    }

    int leaning(int bend, int what) {
        int n = w.loads.size();
        if (!has(w.road, bend) || what < 0 || what > n) {
            return -1;
        }
        World paper = w.same();
        int[][] best = {null};
        tryLeans(paper, paper.road.get(bend), 0, best);
        return best[0][what];
    }

    void tryLeans(World paper, int[] bend, int i, int[][] best) {
        if (i == paper.loads.size()) {
            int[] row = new int[i + 1];
            row[0] = quickest(paper, bend);
            for (int k = 0; k < i; k++) {
                row[k + 1] = paper.loads.get(k).alive ? paper.loads.get(k).lean + 2 : 2;
            }
            if (best[0] == null || row[0] > best[0][0]) {
                best[0] = row;
            }
            return;
        }
        if (!paper.loads.get(i).alive) {
            tryLeans(paper, bend, i + 1, best);
            return;
        }
        for (int lean = -2; lean <= 2; lean++) {
            paper.loads.get(i).lean = lean;
            tryLeans(paper, bend, i + 1, best);
        }
    }

    int putting(int i) {
        int n = w.loads.size();
        if (i < -1 || i >= n) {
            return -1;
        }
        World paper = w.same();
        int[] best = null;
        for (int code = 0; code < 1 << 2 * n; code++) {
            int[] row = new int[n + 1];
            boolean canBe = true;
            for (int k = 0; k < n && canBe; k++) {
                Load l = paper.loads.get(k);
                l.spot = code >> 2 * (n - 1 - k) & 3;
                row[k + 1] = l.spot;
                canBe = !barred(paper, l.weight, l.spot, l.alive ? 1 : 0);
            }
            for (int b = 0; b < w.road.size() && canBe; b++) {
                int q = quickest(paper, w.road.get(b));
                canBe = q > 0;
                row[0] += q > 0 ? time(w.road.get(b), q) : 0;
            }
            if (canBe && (best == null || isLess(row, best))) {
                best = row;
            }
        }
        return best == null ? -1 : best[i + 1];
    }

    int setting(int what) {
        if (what < 0 || what > 1) {
            return -1;
        }
        World paper = w.same();
        int[] best = null;
        for (int bars = 9; bars >= -9; bars--) {
            paper.bars = bars;
            int all = 0;
            for (int[] b : w.road) {
                all += Math.abs(pulls(paper, b)) * b[1];
            }
            if (best == null || all <= best[1]) {
                best = new int[] {bars + 9, all};
            }
        }
        return best[what];
    }

    int learning() {
        if (w.road.isEmpty()) {
            return -1;
        }
        World paper = w.same();
        for (int times = 0; times < 1000; times++) {
            if (paper.skill == 100) {
                return times;
            }
            for (int[] b : paper.road) {
                paper.skill = Math.min(100, paper.skill + learns(paper, b));
            }
        }
        return -1;
    }

    int sight(int bend, int pace, int well) {
        if (pace < 1 || pace > 60 || well < 0 || well > 1) {
            return settle(-1);
        }
        if (!has(w.road, bend)) {
            return settle(-2);
        }
        if (w.sights.size() == 8) {
            return settle(-5);
        }
        w.sights.add(new int[] {bend, pace, well});
        return settle(w.sights.size());
    }

    int forget() {
        int had = w.sights.size();
        w.sights.clear();
        return had;
    }

    int aboard(int i) {
        List<Integer> sets = new ArrayList<>();
        for (int set = 0; set < 1 << w.loads.size(); set++) {
            World paper = w.same();
            for (int k = w.loads.size() - 1; k >= 0; k--) {
                if ((set & 1 << k) == 0) {
                    paper.loads.remove(k);
                }
            }
            boolean all = true;
            for (int[] s : w.sights) {
                all &= (ends(paper, w.road.get(s[0]), s[1]) == 0) == (s[2] == 1);
            }
            if (all) {
                sets.add(set);
            }
        }
        return i == -1 ? sets.size() : has(sets, i) ? sets.get(i) : -1;
    }

    int days(int seed, int n) {
        if (seed < 0 || seed > 1000000 || n < 1 || n > 100) {
            return settle(-1);
        }
        if (w.road.isEmpty()) {
            return settle(-3);
        }
        World paper = w.same();
        paper.hedges = 0;
        long s = seed;
        int well = 0;
        for (int k = 0; k < n; k++) {
            s = (s * 1103 + 12345) % 1000003;
            paper.pace = between(paper.pace + s % (w.terms[0] + w.terms[1] + 1) - w.terms[1], 1, 60);
            well += ridden(paper) == 0 ? 1 : 0;
        }
        latestDay = new int[] {paper.at, paper.pace, paper.hedges, paper.skill};
        return settle(well);
    }

    int drawn(int what) {
        return latestDay == null || what < 0 || what > 3 ? -1 : latestDay[what];
    }

    int image(int k) {
        if (k < 0 || k > 1) {
            return settle(-1);
        }
        images[k] = w.same();
        return settle(0);
    }

    int back(int k) {
        if (k < 0 || k > 1) {
            return settle(-1);
        }
        if (images[k] == null) {
            return settle(-2);
        }
        w = images[k].same();
        forgetPast();
        return settle(0);
    }

    int count(int what) {
        int[] all = {w.loads.size(), w.road.size(), w.sights.size(), w.laws.size(), past.size(), tape.size(), refused[1],
            refused[2], refused[3], refused[5], refused[6], w.force, w.at, w.pace, w.lane, w.hedges, w.skill, w.bars + 9,
            w.terms[0], w.terms[1], w.terms[2]};
        return what < 0 || what >= all.length ? -1 : all[what];
    }

    int status() {
        return status;
    }
}
