import java.util.Arrays;

/** A motorcycle with a chair beside it: its loads, its road, its laws and orders, and what can be worked out of them. */
public final class ThreeWheels {
    public static final int NONE = -1;
    public static final int NOTHING = -1000;

    private static final int BAD_NUMBER = -1;
    private static final int NO_SUCH = -2;
    private static final int CANNOT = -3;
    private static final int NO_ROOM = -5;
    private static final int BAD_TEXT = -6;

    private static final int MOST_LOADS = 6;
    private static final int MOST_BENDS = 12;
    private static final int MOST_SIGHTS = 8;
    private static final int MOST_LAWS = 6;
    private static final int MOST_BYTES = 400;
    private static final int MOST_WEIGHT = 200;
    private static final int MOST_LEAN = 2;
    private static final int MOST_PACE = 60;
    private static final int MOST_SKILL = 100;
    private static final int MOST_BARS = 9;
    private static final int SPOTS = 4;
    private static final int LANES = 3;
    private static final int IMAGES = 2;

    private static final int WELL = 0;
    private static final int LIFTED = 1;
    private static final int SLID = 2;

    private static final int HOLDS = 0;
    private static final int GRIPS = 1;
    private static final int FEARS = 2;
    private static final int PULLS = 3;
    private static final int LEARNS = 4;
    private static final int BANS = 5;

    private static final int GAS = 0;
    private static final int BRAKE = 1;
    private static final int LANE = 2;
    private static final int PUT = 3;
    private static final int LEAN = 4;
    private static final int RIDE = 5;

    private static final int FIRST_TURN_WORD = 6;
    private static final int FIRST_SPOT_WORD = FIRST_TURN_WORD + MOST_BENDS;
    private static final int ORDER_WORDS = FIRST_SPOT_WORD + MOST_LOADS;
    private static final int NO_SUCH_WORD = -10;

    private final State now = new State();
    private final State before = new State();
    private final State[] images = new State[IMAGES];
    private final History history = new History();
    private final History historyBefore = new History();
    private final Tape tape = new Tape();
    private final Parser parser = new Parser();
    private final Calc calc = new Calc();
    private final Judge judge = new Judge(now, calc);
    private final Plans plans = new Plans(now, judge);
    private final int[] orderWords = new int[ORDER_WORDS];
    private final int[] refused = new int[1 - BAD_TEXT];
    private final Trip day = new Trip();
    private boolean dayKept = false;
    private int ordersDone = 0;
    private int ordersEnded = NONE;
    private int stoppedAt = NONE;
    private int mudSeen = 0;
    private int latestStatus = 0;

    /** An empty car on no road. */
    public ThreeWheels() {
    }

    public int load(int weight, int spot, int alive) {
        if (!within(weight, 0, MOST_WEIGHT) || !within(spot, 0, SPOTS - 1) || !within(alive, 0, 1)) {
            return settle(BAD_NUMBER);
        }
        judge.asItStands();
        if (judge.barred(weight, spot, alive)) {
            return settle(CANNOT);
        }
        if (now.loads.count >= MOST_LOADS) {
            return settle(NO_ROOM);
        }
        history.size = 0;
        return settle(now.loads.add(weight, spot, alive));
    }

    public int of(int load, int what) {
        Loads loads = now.loads;
        if (!loads.has(load) || !within(what, 0, 3 + SPOTS)) {
            return NOTHING;
        }
        switch (what) {
            case 0:
                return loads.weight[load];
            case 1:
                return loads.spot[load];
            case 2:
                return loads.alive[load];
            case 3:
                return loads.lean[load];
            default:
                judge.asItStands();
                return judge.barred(loads.weight[load], what - 4, loads.alive[load]) ? 1 : 0;
        }
    }

    public int bend(int turn, int lengthOf, int camber, int holes) {
        if (!Road.canBe(turn, lengthOf, camber, holes)) {
            return settle(BAD_NUMBER);
        }
        if (now.road.count >= MOST_BENDS) {
            return settle(NO_ROOM);
        }
        history.size = 0;
        return settle(now.road.add(turn, lengthOf, camber, holes));
    }

    public int clear() {
        int had = now.road.count;
        if (had == 0) {
            return settle(CANNOT);
        }
        now.road.count = 0;
        now.road.sights = 0;
        now.trip.at = 0;
        history.size = 0;
        return settle(had);
    }

    public int at(int bend, int what) {
        Road road = now.road;
        if (!road.has(bend) || !within(what, 0, 4 + LEARNS)) {
            return NOTHING;
        }
        switch (what) {
            case 0:
                return road.turn[bend];
            case 1:
                return road.length[bend];
            case 2:
                return road.camber[bend];
            case 3:
                return road.holes[bend];
            default:
                judge.asItStands();
                return judge.tell(what - 4, bend);
        }
    }

    public int bars(int value) {
        if (!within(value, -MOST_BARS, MOST_BARS)) {
            return settle(BAD_NUMBER);
        }
        int was = now.trip.bars;
        now.trip.bars = value;
        return settle(was + MOST_BARS);
    }

    public int terms(int what, int value) {
        Trip trip = now.trip;
        boolean canBe = what == 2 ? within(value, 0, 9) : within(what, 0, 1) && within(value, 1, MOST_PACE);
        if (!canBe) {
            return settle(BAD_NUMBER);
        }
        int was = trip.term(what);
        trip.setTerm(what, value);
        return settle(was);
    }

    public int feed(int a, int b, int c, int d, int e) {
        if (tape.size + 20 > MOST_BYTES) {
            return NONE;
        }
        tape.append(a);
        tape.append(b);
        tape.append(c);
        tape.append(d);
        tape.append(e);
        return tape.size;
    }

    public int end(int n) {
        if (!within(n, 0, tape.size)) {
            return NONE;
        }
        tape.size = n;
        return n;
    }

    public int row() {
        if (tape.size == 0) {
            return settle(BAD_TEXT);
        }
        int came = 0;
        int mud = 0;
        for (int place = 0; place < tape.size; place += 4) {
            if (addFromTape(place)) {
                came++;
            } else {
                mud++;
            }
        }
        tape.size = 0;
        mudSeen = mud;
        history.size = 0;
        return settle(came);
    }

    private boolean addFromTape(int place) {
        if (place + 4 > tape.size || now.road.count >= MOST_BENDS) {
            return false;
        }
        int turn = tape.byteAt(place) - 9;
        int length = tape.byteAt(place + 1);
        int camber = tape.byteAt(place + 2) - 3;
        int holes = tape.byteAt(place + 3);
        if (!Road.canBe(turn, length, camber, holes)) {
            return false;
        }
        now.road.add(turn, length, camber, holes);
        return true;
    }

    public int mud() {
        return mudSeen;
    }

    public int law() {
        if (now.lawCount >= MOST_LAWS) {
            tape.size = 0;
            return settle(NO_ROOM);
        }
        boolean read = parser.read(tape, false);
        tape.size = 0;
        if (!read) {
            return settle(BAD_TEXT);
        }
        return settle(now.addLaw(parser.program.copy()));
    }

    public int orders() {
        boolean read = parser.read(tape, true);
        tape.size = 0;
        stoppedAt = NONE;
        if (!read) {
            return settle(BAD_TEXT);
        }
        before.copyFrom(now);
        historyBefore.copyFrom(history);
        ordersDone = 0;
        ordersEnded = NONE;
        Program text = parser.program;
        for (int clause = 0; clause < text.clauses; clause++) {
            if (!runClause(text, clause)) {
                now.copyFrom(before);
                history.copyFrom(historyBefore);
                stoppedAt = clause;
                return settle(CANNOT);
            }
        }
        return settle(ordersDone);
    }

    /** False if the clause can't be done: then all is to be as it was. */
    private boolean runClause(Program text, int clause) {
        int kind = text.kindOf(clause);
        int times = text.timesOf(clause);
        for (int n = 0; n < times; n++) {
            setOrderWords();
            if (!calc.isSo(text, clause, orderWords)) {
                continue;
            }
            long a = calc.sumOf(text, clause, Program.FIRST_SUM, orderWords);
            if (a == Calc.BROKEN) {
                return false;
            }
            long b = calc.sumOf(text, clause, Program.SECOND_SUM, orderWords);
            if (b == Calc.BROKEN) {
                return false;
            }
            int answer = act(kind, (int) a, (int) b);
            if (answer < 0) {
                return false;
            }
            ordersDone++;
            if (kind == RIDE) {
                ordersEnded = answer;
            }
        }
        return true;
    }

    private void setOrderWords() {
        Trip trip = now.trip;
        orderWords[0] = trip.pace;
        orderWords[1] = trip.at;
        orderWords[2] = trip.lane;
        orderWords[3] = ordersDone;
        orderWords[4] = ordersEnded;
        orderWords[5] = trip.hedges;
        for (int b = 0; b < MOST_BENDS; b++) {
            orderWords[FIRST_TURN_WORD + b] = now.road.has(b) ? now.road.turn[b] : NO_SUCH_WORD;
        }
        for (int l = 0; l < MOST_LOADS; l++) {
            orderWords[FIRST_SPOT_WORD + l] = now.loads.has(l) ? now.loads.spot[l] : NO_SUCH_WORD;
        }
    }

    public int fault() {
        return parser.faultAt;
    }

    public int stopped() {
        return stoppedAt;
    }

    public int force(int law) {
        if (!within(law, NONE, now.lawCount - 1)) {
            return settle(NO_SUCH);
        }
        int was = now.force;
        now.force = law;
        settle(0);
        return was;
    }

    public int gas(int by) {
        return settle(act(GAS, by, 0));
    }

    public int brake(int by) {
        return settle(act(BRAKE, by, 0));
    }

    public int lane(int value) {
        return settle(act(LANE, value, 0));
    }

    public int put(int load, int spot) {
        return settle(act(PUT, load, spot));
    }

    public int lean(int load, int value) {
        return settle(act(LEAN, load, value));
    }

    public int ride() {
        return settle(act(RIDE, 0, 0));
    }

    /** One act of the rider, kept so that it can be undone; its answer, or what it is refused by. */
    private int act(int kind, int a, int b) {
        int refusal = whyNot(kind, a, b);
        if (refusal != 0) {
            return refusal;
        }
        history.note(now, kind, a);
        Trip trip = now.trip;
        int was;
        switch (kind) {
            case GAS:
                trip.pace = Math.min(MOST_PACE, trip.pace + a);
                return trip.pace;
            case BRAKE:
                trip.pace = Math.max(0, trip.pace - a);
                return trip.pace;
            case LANE:
                was = trip.lane;
                trip.lane = a;
                return was;
            case PUT:
                was = now.loads.spot[a];
                now.loads.spot[a] = b;
                return was;
            case LEAN:
                was = now.loads.lean[a];
                now.loads.lean[a] = b;
                return was + MOST_LEAN;
            default:
                judge.asItStands();
                int how = judge.outcome(trip.at, trip.pace);
                judge.drive(trip, how);
                return how;
        }
    }

    /** What the act is refused by; 0 if it can be. */
    private int whyNot(int kind, int a, int b) {
        Trip trip = now.trip;
        Loads loads = now.loads;
        switch (kind) {
            case GAS:
                return within(a, 1, trip.gas) ? 0 : BAD_NUMBER;
            case BRAKE:
                return within(a, 1, trip.brake) ? 0 : BAD_NUMBER;
            case LANE:
                if (!within(a, 0, LANES - 1)) {
                    return BAD_NUMBER;
                }
                return Math.abs(a - trip.lane) > 1 ? CANNOT : 0;
            case PUT:
                if (!within(b, 0, SPOTS - 1)) {
                    return BAD_NUMBER;
                }
                if (!loads.has(a)) {
                    return NO_SUCH;
                }
                judge.asItStands();
                return trip.pace > 0 || judge.barred(loads.weight[a], b, loads.alive[a]) ? CANNOT : 0;
            case LEAN:
                if (!within(b, -MOST_LEAN, MOST_LEAN)) {
                    return BAD_NUMBER;
                }
                if (!loads.has(a)) {
                    return NO_SUCH;
                }
                return loads.alive[a] == 0 ? CANNOT : 0;
            default:
                return trip.pace == 0 || now.road.count == 0 ? CANNOT : 0;
        }
    }

    public int undo() {
        if (history.size == 0) {
            return settle(CANNOT);
        }
        return settle(history.takeBack(now));
    }

    public int goes(int bend, int pace) {
        if (!now.road.has(bend) || !within(pace, 1, MOST_PACE)) {
            return NONE;
        }
        judge.asItStands();
        return judge.outcome(bend, pace);
    }

    public int quick(int bend, int what) {
        if (!now.road.has(bend) || !within(what, 0, 1)) {
            return NONE;
        }
        judge.asItStands();
        int pace = judge.quickest(bend);
        return what == 0 ? pace : now.road.timeAt(bend, pace);
    }

    public int soonest(int i) {
        if (i != NONE && !now.road.has(i)) {
            return NONE;
        }
        judge.asItStands();
        return plans.soonestRow(i);
    }

    public int lanes(int what) {
        if (!within(what, 0, 1 + now.road.count)) {
            return NONE;
        }
        return plans.lanesRow(what);
    }

    public int leaning(int bend, int what) {
        if (!now.road.has(bend) || !within(what, 0, now.loads.count)) {
            return NONE;
        }
        judge.asItStands();
        return plans.bestLeans(bend, what);
    }

    public int putting(int i) {
        if (i != NONE && !now.loads.has(i)) {
            return NONE;
        }
        judge.asItStands();
        return plans.bestSpots(i);
    }

    public int setting(int what) {
        if (!within(what, 0, 1)) {
            return NONE;
        }
        judge.asItStands();
        return plans.bestBars(what);
    }

    public int learning() {
        judge.asItStands();
        return plans.roundsToLearn();
    }

    public int sight(int bend, int pace, int well) {
        if (!within(pace, 1, MOST_PACE) || !within(well, 0, 1)) {
            return settle(BAD_NUMBER);
        }
        if (!now.road.has(bend)) {
            return settle(NO_SUCH);
        }
        if (now.road.sights >= MOST_SIGHTS) {
            return settle(NO_ROOM);
        }
        return settle(now.road.see(bend, pace, well));
    }

    public int forget() {
        int had = now.road.sights;
        now.road.sights = 0;
        return had;
    }

    public int aboard(int i) {
        if (i < NONE) {
            return NONE;
        }
        judge.asItStands();
        return plans.setsAboard(i);
    }

    public int days(int seed, int n) {
        if (!within(seed, 0, 1000000) || !within(n, 1, 100)) {
            return settle(BAD_NUMBER);
        }
        if (now.road.count == 0) {
            return settle(CANNOT);
        }
        day.copyFrom(now.trip);
        day.hedges = 0;
        dayKept = true;
        judge.asItStands();
        int many = day.gas + day.brake + 1;
        long s = seed;
        for (int k = 0; k < n; k++) {
            s = (s * 1103 + 12345) % 1000003;
            int draw = many < 1 ? 0 : (int) (s % many);
            day.pace = Math.max(1, Math.min(MOST_PACE, day.pace + draw - day.brake));
            judge.drive(day, judge.outcome(day.at, day.pace));
        }
        return settle(n - day.hedges);
    }

    public int drawn(int what) {
        if (!dayKept) {
            return NONE;
        }
        switch (what) {
            case 0:
                return day.at;
            case 1:
                return day.pace;
            case 2:
                return day.hedges;
            case 3:
                return day.skill;
            default:
                return NONE;
        }
    }

    public int image(int k) {
        if (!within(k, 0, IMAGES - 1)) {
            return settle(BAD_NUMBER);
        }
        State kept = images[k];
        if (kept == null) {
            kept = new State();
            images[k] = kept;
        }
        kept.copyFrom(now);
        return settle(0);
    }

    public int back(int k) {
        if (!within(k, 0, IMAGES - 1)) {
            return settle(BAD_NUMBER);
        }
        State kept = images[k];
        if (kept == null) {
            return settle(NO_SUCH);
        }
        now.copyFrom(kept);
        history.size = 0;
        return settle(0);
    }

    public int count(int what) {
        Trip trip = now.trip;
        switch (what) {
            case 0:
                return now.loads.count;
            case 1:
                return now.road.count;
            case 2:
                return now.road.sights;
            case 3:
                return now.lawCount;
            case 4:
                return history.size;
            case 5:
                return tape.size;
            case 6:
                return refused[-BAD_NUMBER];
            case 7:
                return refused[-NO_SUCH];
            case 8:
                return refused[-CANNOT];
            case 9:
                return refused[-NO_ROOM];
            case 10:
                return refused[-BAD_TEXT];
            case 11:
                return now.force;
            case 12:
                return trip.at;
            case 13:
                return trip.pace;
            case 14:
                return trip.lane;
            case 15:
                return trip.hedges;
            case 16:
                return trip.skill;
            case 17:
                return trip.bars + MOST_BARS;
            default:
                return within(what, 18, 20) ? trip.term(what - 18) : NONE;
        }
    }

    public int status() {
        return latestStatus;
    }

    /** What the call answers is what it was refused by, if it is below 0. */
    private int settle(int answer) {
        latestStatus = Math.min(0, answer);
        if (within(-answer, 1, refused.length - 1)) {
            refused[-answer]++;
        }
        return answer;
    }

    private static boolean within(int value, int low, int high) {
        return value >= low && value <= high;
    }

    private static final class Loads {
        int count = 0;
        final int[] weight = new int[MOST_LOADS];
        final int[] spot = new int[MOST_LOADS];
        final int[] alive = new int[MOST_LOADS];
        final int[] lean = new int[MOST_LOADS];

        boolean has(int load) {
            return load >= 0 && load < count && load < MOST_LOADS;
        }

        int add(int newWeight, int newSpot, int newAlive) {
            if (count >= MOST_LOADS) {
                return NO_ROOM;
            }
            weight[count] = newWeight;
            spot[count] = newSpot;
            alive[count] = newAlive;
            lean[count] = 0;
            count++;
            return count - 1;
        }

        void copyFrom(Loads other) {
            count = other.count;
            System.arraycopy(other.weight, 0, weight, 0, MOST_LOADS);
            System.arraycopy(other.spot, 0, spot, 0, MOST_LOADS);
            System.arraycopy(other.alive, 0, alive, 0, MOST_LOADS);
            System.arraycopy(other.lean, 0, lean, 0, MOST_LOADS);
        }
    }

    /** The bends, and what was seen on them. */
    private static final class Road {
        int count = 0;
        final int[] turn = new int[MOST_BENDS];
        final int[] length = new int[MOST_BENDS];
        final int[] camber = new int[MOST_BENDS];
        final int[] holes = new int[MOST_BENDS];
        int sights = 0;
        final int[] sightBend = new int[MOST_SIGHTS];
        final int[] sightPace = new int[MOST_SIGHTS];
        final int[] sightWell = new int[MOST_SIGHTS];

        static boolean canBe(int turn, int length, int camber, int holes) {
            return within(turn, -9, 9) && within(length, 1, 99) && within(camber, -3, 3) && within(holes, 0, 31);
        }

        boolean has(int bend) {
            return bend >= 0 && bend < count && bend < MOST_BENDS;
        }

        int add(int newTurn, int newLength, int newCamber, int newHoles) {
            if (count >= MOST_BENDS) {
                return NO_ROOM;
            }
            turn[count] = newTurn;
            length[count] = newLength;
            camber[count] = newCamber;
            holes[count] = newHoles;
            count++;
            return count - 1;
        }

        int see(int bend, int pace, int well) {
            if (sights >= MOST_SIGHTS) {
                return NO_ROOM;
            }
            sightBend[sights] = bend;
            sightPace[sights] = pace;
            sightWell[sights] = well;
            sights++;
            return sights;
        }

        /** 0 where there is no pace to go at. */
        int timeAt(int bend, int pace) {
            return has(bend) && pace > 0 ? length[bend] * 60 / pace : 0;
        }

        int holesUnder(int bend, int lane) {
            return has(bend) ? Integer.bitCount((holes[bend] >> lane) & 7) : 0;
        }

        void copyFrom(Road other) {
            count = other.count;
            System.arraycopy(other.turn, 0, turn, 0, MOST_BENDS);
            System.arraycopy(other.length, 0, length, 0, MOST_BENDS);
            System.arraycopy(other.camber, 0, camber, 0, MOST_BENDS);
            System.arraycopy(other.holes, 0, holes, 0, MOST_BENDS);
            sights = other.sights;
            System.arraycopy(other.sightBend, 0, sightBend, 0, MOST_SIGHTS);
            System.arraycopy(other.sightPace, 0, sightPace, 0, MOST_SIGHTS);
            System.arraycopy(other.sightWell, 0, sightWell, 0, MOST_SIGHTS);
        }
    }

    /** Where one is on the road and how; the days are ridden on one of these on paper. */
    private static final class Trip {
        int bars = 0;
        int lane = 0;
        int at = 0;
        int pace = 0;
        int hedges = 0;
        int skill = 0;
        int gas = 10;
        int brake = 20;
        int mood = 0;

        int term(int what) {
            return what == 0 ? gas : what == 1 ? brake : mood;
        }

        void setTerm(int what, int value) {
            if (what == 0) {
                gas = value;
            } else if (what == 1) {
                brake = value;
            } else {
                mood = value;
            }
        }

        void copyFrom(Trip other) {
            bars = other.bars;
            lane = other.lane;
            at = other.at;
            pace = other.pace;
            hedges = other.hedges;
            skill = other.skill;
            gas = other.gas;
            brake = other.brake;
            mood = other.mood;
        }
    }

    /** All that an image keeps. */
    private static final class State {
        final Loads loads = new Loads();
        final Road road = new Road();
        final Trip trip = new Trip();
        final Program[] laws = new Program[MOST_LAWS];
        int lawCount = 0;
        int force = NONE;

        int addLaw(Program program) {
            if (lawCount >= MOST_LAWS) {
                return NO_ROOM;
            }
            laws[lawCount] = program;
            lawCount++;
            return lawCount - 1;
        }

        /** Null if none is in force. */
        Program inForce() {
            return force >= 0 && force < lawCount && force < MOST_LAWS ? laws[force] : null;
        }

        void copyFrom(State other) {
            loads.copyFrom(other.loads);
            road.copyFrom(other.road);
            trip.copyFrom(other.trip);
            // A law never changes once it is read, so that the copies may share it.
            for (int i = 0; i < MOST_LAWS; i++) {
                laws[i] = other.laws[i];
            }
            lawCount = other.lawCount;
            force = other.force;
        }
    }

    /** The latest acts, each with what stood ahead of it. */
    private static final class History {
        static final int MOST = 16;
        static final int FIELDS = 9;
        final int[] rows = new int[MOST * FIELDS];
        int size = 0;

        void note(State state, int kind, int load) {
            if (size >= MOST) {
                System.arraycopy(rows, FIELDS, rows, 0, (MOST - 1) * FIELDS);
                size = MOST - 1;
            }
            int p = size * FIELDS;
            if (p < 0 || p + FIELDS > rows.length) {
                return;
            }
            Trip trip = state.trip;
            boolean ofLoad = (kind == PUT || kind == LEAN) && state.loads.has(load);
            rows[p] = kind;
            rows[p + 1] = trip.at;
            rows[p + 2] = trip.pace;
            rows[p + 3] = trip.lane;
            rows[p + 4] = trip.hedges;
            rows[p + 5] = trip.skill;
            rows[p + 6] = ofLoad ? load : NONE;
            rows[p + 7] = ofLoad ? state.loads.spot[load] : 0;
            rows[p + 8] = ofLoad ? state.loads.lean[load] : 0;
            size++;
        }

        int takeBack(State state) {
            int p = (size - 1) * FIELDS;
            if (p < 0 || p + FIELDS > rows.length) {
                return CANNOT;
            }
            size--;
            Trip trip = state.trip;
            trip.at = rows[p + 1];
            trip.pace = rows[p + 2];
            trip.lane = rows[p + 3];
            trip.hedges = rows[p + 4];
            trip.skill = rows[p + 5];
            int load = rows[p + 6];
            if (state.loads.has(load)) {
                state.loads.spot[load] = rows[p + 7];
                state.loads.lean[load] = rows[p + 8];
            }
            return rows[p];
        }

        void copyFrom(History other) {
            size = other.size;
            System.arraycopy(other.rows, 0, rows, 0, rows.length);
        }
    }

    private static final class Tape {
        final int[] bytes = new int[MOST_BYTES];
        int size = 0;

        void append(int four) {
            for (int shift = 24; shift >= 0 && size < MOST_BYTES; shift -= 8) {
                bytes[size] = (four >>> shift) & 255;
                size++;
            }
        }

        int byteAt(int place) {
            return place >= 0 && place < size && place < MOST_BYTES ? bytes[place] : NONE;
        }
    }

    /** A text that was read: for each clause its kind, its times, and the code of its two sums and its test. */
    private static final class Program {
        static final int MOST_CLAUSES = 12;
        static final int SPANS = 3;
        static final int FIRST_SUM = 0;
        static final int SECOND_SUM = 1;
        static final int TEST = 2;
        static final int ARGS = 1024;

        static final int NUMBER = 0;
        static final int WORD = 1;
        static final int PLUS = 2;
        static final int MINUS = 3;
        static final int TIMES = 4;
        static final int BY = 5;
        static final int LEFT = 6;
        static final int LESS = 7;
        static final int MORE = 8;
        static final int SAME = 9;
        static final int NOT = 10;
        static final int AND = 11;
        static final int OR = 12;

        final int[] code;
        final int[] kinds;
        final int[] times;
        final int[] starts;
        int clauses = 0;
        int length = 0;

        // Each op of the code comes from a token of its own, so that a text of 400 bytes has no more of them.
        Program(int ops, int mostClauses) {
            code = new int[Math.max(0, ops)];
            kinds = new int[Math.max(0, mostClauses)];
            times = new int[Math.max(0, mostClauses)];
            starts = new int[Math.max(0, mostClauses) * SPANS + 1];
        }

        Program copy() {
            Program made = new Program(length, clauses);
            System.arraycopy(code, 0, made.code, 0, length);
            System.arraycopy(kinds, 0, made.kinds, 0, clauses);
            System.arraycopy(times, 0, made.times, 0, clauses);
            System.arraycopy(starts, 0, made.starts, 0, clauses * SPANS + 1);
            made.clauses = clauses;
            made.length = length;
            return made;
        }

        void restart() {
            clauses = 0;
            length = 0;
        }

        /** Where the op stands. */
        int emit(int op, int arg) {
            if (length < code.length) {
                code[length] = op * ARGS + arg;
                length++;
            }
            return length - 1;
        }

        /** The jump at that place leads to what comes now. */
        void landFrom(int jump) {
            if (jump >= 0 && jump < length) {
                code[jump] += length;
            }
        }

        /** The span of the clause being read begins here. */
        void beginSpan(int span) {
            int k = clauses * SPANS + span;
            if (k >= 0 && k < starts.length) {
                starts[k] = length;
            }
        }

        void close(int kind, int often) {
            if (clauses < kinds.length) {
                kinds[clauses] = kind;
                times[clauses] = often;
                clauses++;
                beginSpan(FIRST_SUM);
            }
        }

        int kindOf(int clause) {
            return clause >= 0 && clause < clauses ? kinds[clause] : NONE;
        }

        int timesOf(int clause) {
            return clause >= 0 && clause < clauses ? times[clause] : 0;
        }

        int spanStart(int clause, int span) {
            int k = clause * SPANS + span;
            return k >= 0 && k < starts.length ? starts[k] : 0;
        }
    }

    /** Reads a text of either language into its program. */
    private static final class Parser {
        static final String LAW_CLAUSES = "holds grips fears pulls learns bans ";
        static final String ORDER_CLAUSES = "gas brake lane put lean ride ";
        static final String LAW_WORDS = "turn long camber chair rest lean bars skill weight spot alive mood ";
        static final String ORDER_PARTS = "pace next side done ended hedges turn spot ";
        static final int TURN_PART = 6;
        static final int SPOT_PART = 7;
        static final int MOST_PARTS = 50;
        static final int MOST_BRACKETS = 8;
        static final int MOST_NUMBER = 1000;
        static final int MOST_TIMES = 20;

        static final int END = 0;
        static final int LETTERS = 1;
        static final int DIGITS = 2;
        static final int SIGN = 3;
        static final int BAD = 4;

        final Program program = new Program(MOST_BYTES, Program.MOST_CLAUSES);
        int faultAt = NONE;
        private Tape text = null;
        private boolean ordersText = false;
        private int next = 0;
        private int start = 0;
        private int kind = END;
        private int number = 0;
        private int parts = 0;

        boolean read(Tape tape, boolean asOrders) {
            text = tape;
            ordersText = asOrders;
            faultAt = NONE;
            kind = END;
            next = 0;
            parts = 0;
            program.restart();
            advance();
            readClause();
            for (int n = 1; n <= Program.MOST_CLAUSES && isSign(';'); n++) {
                advance();
                if (n == Program.MOST_CLAUSES) {
                    fail();
                } else {
                    readClause();
                }
            }
            if (kind != END) {
                fail();
            }
            return faultAt == NONE;
        }

        private void advance() {
            if (kind == BAD || text == null) {
                return;
            }
            int size = text.size;
            while (next < size && text.byteAt(next) == ' ') {
                next++;
            }
            start = next;
            if (next >= size) {
                kind = END;
                return;
            }
            kind = kindOfByte(text.byteAt(next));
            number = 0;
            do {
                if (kind == DIGITS) {
                    number = Math.min(MOST_NUMBER + 1, number * 10 + text.byteAt(next) - '0');
                }
                next++;
            } while (next < size && kind != SIGN && kindOfByte(text.byteAt(next)) == kind);
        }

        private static int kindOfByte(int b) {
            if (b >= 'a' && b <= 'z') {
                return LETTERS;
            }
            return b >= '0' && b <= '9' ? DIGITS : SIGN;
        }

        private void fail() {
            if (faultAt == NONE) {
                faultAt = start;
            }
            kind = BAD;
        }

        private boolean isSign(int sign) {
            return kind == SIGN && text != null && text.byteAt(start) == sign;
        }

        /** Which of the words, each with a blank behind it, the token is; NONE if it is none of them. */
        private int wordIn(String list) {
            if (kind != LETTERS || text == null) {
                return NONE;
            }
            int index = 0;
            int place = start;
            boolean same = true;
            for (int i = 0; i < list.length(); i++) {
                char c = list.charAt(i);
                if (c != ' ') {
                    same = same && place < next && text.byteAt(place) == c;
                    place++;
                } else if (same && place == next) {
                    return index;
                } else {
                    index++;
                    place = start;
                    same = true;
                }
            }
            return NONE;
        }

        private void expectSign(int sign) {
            if (isSign(sign)) {
                advance();
            } else {
                fail();
            }
        }

        private void expectWord(String word) {
            if (wordIn(word) == 0) {
                advance();
            } else {
                fail();
            }
        }

        private int expectNumber(int low, int high) {
            if (kind != DIGITS || number < low || number > high) {
                fail();
                return low;
            }
            int value = number;
            advance();
            return value;
        }

        private void readClause() {
            int clause = wordIn(ordersText ? ORDER_CLAUSES : LAW_CLAUSES);
            if (clause == NONE) {
                fail();
                return;
            }
            advance();
            program.beginSpan(Program.FIRST_SUM);
            if (clause != (ordersText ? RIDE : BANS)) {
                readSum(0);
            }
            program.beginSpan(Program.SECOND_SUM);
            if (ordersText && (clause == PUT || clause == LEAN)) {
                expectWord(clause == PUT ? "at " : "by ");
                readSum(0);
            }
            program.beginSpan(Program.TEST);
            int often = 1;
            if (ordersText && wordIn("times ") == 0) {
                advance();
                often = expectNumber(1, MOST_TIMES);
            }
            if (wordIn("if ") == 0) {
                advance();
                readTest(0);
            }
            program.close(clause, often);
        }

        private void readTest(int brackets) {
            readBoth(brackets);
            for (int n = 0; n < MOST_BYTES && wordIn("or ") == 0; n++) {
                int jump = program.emit(Program.OR, 0);
                advance();
                readBoth(brackets);
                program.landFrom(jump);
            }
        }

        private void readBoth(int brackets) {
            readPlain(brackets);
            for (int n = 0; n < MOST_BYTES && wordIn("and ") == 0; n++) {
                int jump = program.emit(Program.AND, 0);
                advance();
                readPlain(brackets);
                program.landFrom(jump);
            }
        }

        private void readPlain(int brackets) {
            boolean turned = false;
            for (int n = 0; n < MOST_BYTES && wordIn("not ") == 0; n++) {
                turned = !turned;
                advance();
            }
            if (isSign('(')) {
                if (brackets >= MOST_BRACKETS) {
                    fail();
                    return;
                }
                advance();
                readTest(brackets + 1);
                expectSign(')');
            } else {
                readSum(brackets);
                int op = isSign('<') ? Program.LESS : isSign('>') ? Program.MORE : isSign('=') ? Program.SAME : NONE;
                if (op == NONE) {
                    fail();
                    return;
                }
                advance();
                readSum(brackets);
                program.emit(op, 0);
            }
            if (turned) {
                program.emit(Program.NOT, 0);
            }
        }

        private void readSum(int brackets) {
            readTerm(brackets);
            for (int n = 0; n < MOST_BYTES && (isSign('+') || isSign('-')); n++) {
                int op = isSign('+') ? Program.PLUS : Program.MINUS;
                advance();
                readTerm(brackets);
                program.emit(op, 0);
            }
        }

        private void readTerm(int brackets) {
            readPart(brackets);
            for (int n = 0; n < MOST_BYTES && (isSign('*') || isSign('/') || isSign('%')); n++) {
                int op = isSign('*') ? Program.TIMES : isSign('/') ? Program.BY : Program.LEFT;
                advance();
                readPart(brackets);
                program.emit(op, 0);
            }
        }

        private void readPart(int brackets) {
            if (isSign('[')) {
                if (brackets >= MOST_BRACKETS) {
                    fail();
                    return;
                }
                advance();
                readSum(brackets + 1);
                expectSign(']');
                return;
            }
            int word = wordIn(ordersText ? ORDER_PARTS : LAW_WORDS);
            boolean canBe = word != NONE || (kind == DIGITS && number <= MOST_NUMBER);
            if (!canBe || parts >= MOST_PARTS) {
                fail();
                return;
            }
            parts++;
            int value = number;
            advance();
            if (word == NONE) {
                program.emit(Program.NUMBER, value);
            } else if (ordersText && word == TURN_PART) {
                program.emit(Program.WORD, FIRST_TURN_WORD + expectNumber(0, MOST_BENDS - 1));
            } else if (ordersText && word == SPOT_PART) {
                program.emit(Program.WORD, FIRST_SPOT_WORD + expectNumber(0, MOST_LOADS - 1));
            } else {
                program.emit(Program.WORD, word);
            }
        }
    }

    /** Works out the sums and tests of a program. */
    private static final class Calc {
        static final long MOST = 1000000000L;
        static final long BROKEN = 2 * MOST;
        // More than the parts of one text, each of which is put on it once.
        private final long[] stack = new long[Parser.MOST_PARTS + 2];

        boolean isSo(Program program, int clause, int[] words) {
            int from = program.spanStart(clause, Program.TEST);
            int to = program.spanStart(clause + 1, Program.FIRST_SUM);
            return from >= to || work(program, from, to, words) == 1;
        }

        /** 0 where the clause has no such sum. */
        long sumOf(Program program, int clause, int span, int[] words) {
            int from = program.spanStart(clause, span);
            int to = program.spanStart(clause, span + 1);
            return from >= to ? 0 : work(program, from, to, words);
        }

        private long work(Program program, int from, int to, int[] words) {
            int top = 0;
            int stop = Math.min(to, program.length);
            for (int i = Math.max(0, from); i < stop; i++) {
                int op = program.code[i] / Program.ARGS;
                int arg = program.code[i] % Program.ARGS;
                if (op == Program.NUMBER || op == Program.WORD) {
                    if (top >= stack.length || (op == Program.WORD && arg >= words.length)) {
                        return BROKEN;
                    }
                    stack[top] = op == Program.NUMBER ? arg : words[arg];
                    top++;
                    continue;
                }
                if (top < 1) {
                    return BROKEN;
                }
                if (op == Program.NOT) {
                    stack[top - 1] = 1 - stack[top - 1];
                } else if (op == Program.AND || op == Program.OR) {
                    if (stack[top - 1] == (op == Program.OR ? 1 : 0)) {
                        i = Math.max(i, arg - 1);
                    } else {
                        top--;
                    }
                } else {
                    if (top < 2) {
                        return BROKEN;
                    }
                    top--;
                    long value = joined(op, stack[top - 1], stack[top]);
                    if (value == BROKEN) {
                        return BROKEN;
                    }
                    stack[top - 1] = value;
                }
            }
            return top == 1 ? stack[0] : BROKEN;
        }

        private static long joined(int op, long a, long b) {
            if (b == 0 && (op == Program.BY || op == Program.LEFT)) {
                return BROKEN;
            }
            long value;
            switch (op) {
                case Program.PLUS:
                    value = a + b;
                    break;
                case Program.MINUS:
                    value = a - b;
                    break;
                case Program.TIMES:
                    value = a * b;
                    break;
                case Program.BY:
                    value = b == 0 ? 0 : a / b;
                    break;
                case Program.LEFT:
                    value = b == 0 ? 0 : a % b;
                    break;
                case Program.LESS:
                    return a < b ? 1 : 0;
                case Program.MORE:
                    return a > b ? 1 : 0;
                default:
                    return a == b ? 1 : 0;
            }
            return value > MOST || value < -MOST ? BROKEN : value;
        }
    }

    /** What the law in force, or what holds without it, says of bends and loads. */
    private static final class Judge {
        static final int TURN = 0;
        static final int LONG = 1;
        static final int CAMBER = 2;
        static final int CHAIR = 3;
        static final int REST = 4;
        static final int LEANED = 5;
        static final int BARS = 6;
        static final int SKILL = 7;
        static final int WEIGHT = 8;
        static final int SPOT = 9;
        static final int ALIVE = 10;
        static final int MOOD = 11;
        static final int WORDS = 12;
        static final int EVERYONE = (1 << MOST_LOADS) - 1;

        final int[] words = new int[WORDS];
        private final int[] loadWords = new int[WORDS];
        private final State state;
        private final Calc calc;

        Judge(State judged, Calc worker) {
            state = judged;
            calc = worker;
            Arrays.fill(words, -1);
            Arrays.fill(loadWords, -1);
        }

        /** To be called ahead of all that asks: what is asked on paper changes from here on. */
        void asItStands() {
            Trip trip = state.trip;
            words[BARS] = trip.bars;
            words[SKILL] = trip.skill;
            words[MOOD] = trip.mood;
            weigh(EVERYONE);
        }

        void weigh(int set) {
            Loads loads = state.loads;
            int chair = 0;
            int rest = 0;
            int leaned = 0;
            for (int i = 0; i < loads.count && i < MOST_LOADS; i++) {
                if ((set >> i & 1) == 0) {
                    continue;
                }
                if (loads.spot[i] >= 2) {
                    chair += loads.weight[i];
                } else {
                    rest += loads.weight[i];
                }
                leaned += loads.alive[i] == 1 ? loads.lean[i] * loads.weight[i] : 0;
            }
            words[CHAIR] = chair;
            words[REST] = rest;
            words[LEANED] = leaned;
        }

        boolean barred(int weight, int spot, int alive) {
            Program law = state.inForce();
            if (law == null) {
                return false;
            }
            loadWords[BARS] = words[BARS];
            loadWords[SKILL] = words[SKILL];
            loadWords[MOOD] = words[MOOD];
            loadWords[WEIGHT] = weight;
            loadWords[SPOT] = spot;
            loadWords[ALIVE] = alive;
            for (int c = 0; c < law.clauses; c++) {
                if (law.kindOf(c) == BANS && calc.isSo(law, c, loadWords)) {
                    return true;
                }
            }
            return false;
        }

        /** What the bend HOLDS .. one LEARNS there. */
        int tell(int kind, int bend) {
            Road road = state.road;
            if (!road.has(bend)) {
                return 0;
            }
            words[TURN] = road.turn[bend];
            words[LONG] = road.length[bend];
            words[CAMBER] = road.camber[bend];
            Program law = state.inForce();
            int clauses = law == null ? 0 : law.clauses;
            for (int c = clauses - 1; c >= 0 && law != null; c--) {
                if (law.kindOf(c) != kind || !calc.isSo(law, c, words)) {
                    continue;
                }
                long told = calc.sumOf(law, c, Program.FIRST_SUM, words);
                if (told != Calc.BROKEN) {
                    return nearest(kind, told);
                }
            }
            return without(kind);
        }

        private static int nearest(int kind, long told) {
            long low = kind == PULLS ? -99 : 0;
            long high = kind == FEARS ? MOST_PACE : kind == PULLS ? 99 : kind == LEARNS ? MOST_SKILL : 99999;
            return (int) Math.max(low, Math.min(high, told));
        }

        private int without(int kind) {
            switch (kind) {
                case HOLDS:
                    return Math.max(0, 600 + 20 * words[CHAIR] + words[LEANED]);
                case GRIPS:
                    return Math.max(0, 2000 + 10 * words[REST] - words[LEANED]);
                case FEARS:
                    return MOST_PACE;
                case PULLS:
                    return words[CAMBER] * 5 + words[CHAIR] / 20 - words[BARS];
                default:
                    return words[LONG] / 10;
            }
        }

        int outcome(int bend, int pace) {
            int turn = state.road.has(bend) ? state.road.turn[bend] : 0;
            int push = turn * pace * pace;
            if (turn > 0) {
                return push <= tell(GRIPS, bend) ? WELL : SLID;
            }
            return turn == 0 || -push <= tell(HOLDS, bend) ? WELL : LIFTED;
        }

        /** The greatest pace not above what is feared at which the bend goes well; 0 if there is none. */
        int quickest(int bend) {
            int turn = state.road.has(bend) ? state.road.turn[bend] : 0;
            int pace = Math.min(MOST_PACE, tell(FEARS, bend));
            if (turn == 0) {
                return pace;
            }
            int most = tell(turn > 0 ? GRIPS : HOLDS, bend);
            while (pace > 0 && Math.abs(turn) * pace * pace > most) {
                pace--;
            }
            return pace;
        }

        /** One rides, and it ends like that. */
        void drive(Trip trip, int how) {
            if (how == WELL) {
                trip.skill = Math.min(MOST_SKILL, trip.skill + tell(LEARNS, trip.at));
            } else {
                trip.hedges++;
                trip.pace = 0;
            }
            trip.at = trip.at + 1 >= state.road.count ? 0 : trip.at + 1;
            words[SKILL] = trip.skill;
        }
    }

    /** What is worked out on paper, of all that stands as the judge has it. */
    private static final class Plans {
        static final int FAR = 1000000000;
        static final int PACES = MOST_PACE + 1;
        static final int HOLE = 100;
        static final int LEAN_ROOM = MOST_LOADS * MOST_LEAN * MOST_WEIGHT;

        private final State state;
        private final Judge judge;
        private final int[] quicks = new int[MOST_BENDS];
        private final int[] least = new int[(MOST_BENDS + 1) * PACES];
        private final int[] leastInLane = new int[(MOST_BENDS + 1) * LANES];
        private final int[] quickByLean = new int[2 * LEAN_ROOM + 1];
        private final int[] tried = new int[MOST_LOADS];
        private final int[] best = new int[MOST_LOADS];
        private int triedSum = 0;

        Plans(State planned, Judge asked) {
            state = planned;
            judge = asked;
        }

        /** The times together for NONE, else the pace in that bend; NONE if it can't be. */
        int soonestRow(int wanted) {
            int bends = Math.min(state.road.count, MOST_BENDS);
            for (int b = 0; b < bends; b++) {
                quicks[b] = judge.quickest(b);
                if (quicks[b] == 0) {
                    return NONE;
                }
            }
            fillLeast(bends);
            if (bends == 0) {
                return wanted == NONE ? 0 : NONE;
            }
            int pace = bestPace(0, 1, MOST_PACE);
            if (wanted == NONE) {
                return least[pace];
            }
            for (int b = 1; b <= wanted; b++) {
                pace = bestPace(b, pace - state.trip.brake, pace + state.trip.gas);
            }
            return pace;
        }

        /** For each bend and pace in it the least time from there to the end. */
        private void fillLeast(int bends) {
            Arrays.fill(least, FAR);
            for (int b = bends - 1; b >= 0; b--) {
                for (int p = 1; p <= quicks[b]; p++) {
                    int behind = 0;
                    if (b + 1 < bends) {
                        int next = bestPace(b + 1, p - state.trip.brake, p + state.trip.gas);
                        behind = least[(b + 1) * PACES + next];
                    }
                    least[b * PACES + p] = Math.min(FAR, state.road.timeAt(b, p) + behind);
                }
            }
        }

        /** The lowest of the best paces in a bend. */
        private int bestPace(int bend, int from, int to) {
            int found = Math.max(1, Math.min(MOST_PACE, from));
            for (int p = found + 1; p <= to && p <= MOST_PACE; p++) {
                if (least[bend * PACES + p] < least[bend * PACES + found]) {
                    found = p;
                }
            }
            return found;
        }

        /** Holes for 0, changes for 1, else the lane in that bend, and 2. */
        int lanesRow(int wanted) {
            int bends = Math.min(state.road.count, MOST_BENDS);
            Arrays.fill(leastInLane, 0);
            for (int b = bends - 1; b >= 0; b--) {
                for (int lane = 0; lane < LANES; lane++) {
                    int behind = b + 1 < bends ? costFrom(b + 1, lane, bestLane(b + 1, lane)) : 0;
                    leastInLane[b * LANES + lane] = state.road.holesUnder(b, lane) * HOLE + behind;
                }
            }
            int lane = state.trip.lane;
            if (wanted < 2) {
                int cost = bends == 0 ? 0 : costFrom(0, lane, bestLane(0, lane));
                return wanted == 0 ? cost / HOLE : cost % HOLE;
            }
            for (int b = 0; b <= wanted - 2; b++) {
                lane = bestLane(b, lane);
            }
            return lane;
        }

        private int costFrom(int bend, int from, int to) {
            return leastInLane[bend * LANES + to] + (from == to ? 0 : 1);
        }

        private int bestLane(int bend, int from) {
            int found = Math.max(0, from - 1);
            for (int lane = found + 1; lane <= from + 1 && lane < LANES; lane++) {
                if (costFrom(bend, from, lane) < costFrom(bend, from, found)) {
                    found = lane;
                }
            }
            return found;
        }

        /** How quick for 0, else the lean of that load, and 2. */
        int bestLeans(int bend, int wanted) {
            Loads loads = state.loads;
            Arrays.fill(quickByLean, NONE);
            triedSum = 0;
            for (int i = 0; i < MOST_LOADS; i++) {
                tried[i] = loads.has(i) && loads.alive[i] == 1 ? -MOST_LEAN : 0;
                triedSum += tried[i] * loads.weight[i];
            }
            int quickest = NONE;
            boolean more = true;
            // Five leans of six loads: no more rows than 5 * 5 * 5 * 5 * 5 * 5.
            for (int n = 0; n < 15625 && more && quickest < MOST_PACE; n++) {
                int pace = quickAsTried(bend);
                if (pace > quickest) {
                    quickest = pace;
                    System.arraycopy(tried, 0, best, 0, MOST_LOADS);
                }
                more = nextTry();
            }
            if (wanted == 0) {
                return quickest;
            }
            return loads.has(wanted - 1) ? best[wanted - 1] + MOST_LEAN : NONE;
        }

        // How quick one is depends on the leans by their weighted sum alone, so that it is asked once for each.
        private int quickAsTried(int bend) {
            int k = triedSum + LEAN_ROOM;
            if (k < 0 || k >= quickByLean.length) {
                return 0;
            }
            if (quickByLean[k] == NONE) {
                judge.words[Judge.LEANED] = triedSum;
                quickByLean[k] = judge.quickest(bend);
            }
            return quickByLean[k];
        }

        /** False behind the last row of leans. */
        private boolean nextTry() {
            Loads loads = state.loads;
            for (int i = MOST_LOADS - 1; i >= 0; i--) {
                if (!loads.has(i) || loads.alive[i] != 1) {
                    continue;
                }
                if (tried[i] < MOST_LEAN) {
                    tried[i]++;
                    triedSum += loads.weight[i];
                    return true;
                }
                tried[i] = -MOST_LEAN;
                triedSum -= 2 * MOST_LEAN * loads.weight[i];
            }
            return false;
        }

        /** The times together for NONE, else the spot of that load; NONE if it can't be. */
        int bestSpots(int wanted) {
            int loads = Math.min(state.loads.count, MOST_LOADS);
            int quickest = FAR;
            // Only whether a load is in the chair matters to the road. The first load is the highest bit,
            // so that of two rows as good the first one is found first.
            for (int inChair = 0; inChair < 1 << loads; inChair++) {
                if (!tryChair(inChair, loads)) {
                    continue;
                }
                int time = timeOfRoad();
                if (time < quickest) {
                    quickest = time;
                    System.arraycopy(tried, 0, best, 0, MOST_LOADS);
                }
            }
            if (quickest == FAR) {
                return NONE;
            }
            if (wanted == NONE) {
                return quickest;
            }
            return state.loads.has(wanted) ? best[wanted] : NONE;
        }

        /** Each load on the first spot of its kind that is not barred; false if one has none. */
        private boolean tryChair(int inChair, int loads) {
            int chair = 0;
            int rest = 0;
            for (int i = 0; i < loads && i < MOST_LOADS; i++) {
                boolean sits = (inChair >> (loads - 1 - i) & 1) == 1;
                int weight = state.loads.weight[i];
                int alive = state.loads.alive[i];
                int spot = sits ? 2 : 0;
                if (judge.barred(weight, spot, alive)) {
                    spot++;
                    if (judge.barred(weight, spot, alive)) {
                        return false;
                    }
                }
                tried[i] = spot;
                chair += sits ? weight : 0;
                rest += sits ? 0 : weight;
            }
            judge.words[Judge.CHAIR] = chair;
            judge.words[Judge.REST] = rest;
            return true;
        }

        private int timeOfRoad() {
            int time = 0;
            for (int b = 0; b < state.road.count; b++) {
                int pace = judge.quickest(b);
                if (pace == 0) {
                    return FAR;
                }
                time += state.road.timeAt(b, pace);
            }
            return time;
        }

        /** The bars and 9 for 0, else what the road pulls then. */
        int bestBars(int wanted) {
            int leastPull = FAR;
            int found = 0;
            for (int value = -MOST_BARS; value <= MOST_BARS; value++) {
                judge.words[Judge.BARS] = value;
                int pull = 0;
                for (int b = 0; b < state.road.count && b < MOST_BENDS; b++) {
                    pull += Math.abs(judge.tell(PULLS, b)) * state.road.length[b];
                }
                if (pull < leastPull) {
                    leastPull = pull;
                    found = value;
                }
            }
            return wanted == 0 ? found + MOST_BARS : leastPull;
        }

        int roundsToLearn() {
            int bends = state.road.count;
            int skill = state.trip.skill;
            if (bends == 0) {
                return NONE;
            }
            for (int round = 0; round < 1000; round++) {
                if (skill >= MOST_SKILL) {
                    return round;
                }
                int ahead = skill;
                for (int b = 0; b < bends && b < MOST_BENDS; b++) {
                    judge.words[Judge.SKILL] = skill;
                    skill = Math.min(MOST_SKILL, skill + judge.tell(LEARNS, b));
                }
                if (skill == ahead) {
                    return NONE;
                }
            }
            return NONE;
        }

        /** How many sets for NONE, else that set as bits; NONE if there is none. */
        int setsAboard(int wanted) {
            int found = 0;
            int sets = 1 << Math.min(state.loads.count, MOST_LOADS);
            for (int set = 0; set < sets; set++) {
                if (!allSeen(set)) {
                    continue;
                }
                if (found == wanted) {
                    return set;
                }
                found++;
            }
            return wanted == NONE ? found : NONE;
        }

        private boolean allSeen(int set) {
            Road road = state.road;
            judge.weigh(set);
            for (int i = 0; i < road.sights && i < MOST_SIGHTS; i++) {
                boolean well = judge.outcome(road.sightBend[i], road.sightPace[i]) == WELL;
                if (well != (road.sightWell[i] == 1)) {
                    return false;
                }
            }
            return true;
        }
    }
}
