import java.util.Arrays;

/**
 * A fort of rooms and drawbridges that raise each other over chains, and the people who step on
 * and off them. Every call answers a number; a call that is refused answers BAD, NO or FULL (or
 * what its own line says instead) and changes nothing but what status tells.
 */
public final class MiserBridges {
    public static final int NONE = -1, BAD = -2, NO = -3, FULL = -4;

    private static final int ROOMS = 5;
    private static final int KINDS = 6;
    private static final int MOST_BRIDGES = 5;
    private static final int MOST_CHAINS = 2;
    private static final int MOST_PEOPLE = 3;
    private static final int MOST_RUST = 9;
    private static final int MOST_BALLAST = 20;
    private static final int MOST_POUNDS = 9;
    private static final int MOST_STONE = 9;
    private static final int MOST_WET_STEPS = 6;
    private static final int MOST_UNDONE = 16;
    private static final int MOST_BYTES = 200;
    private static final int MOST_BYTES_AT_ONCE = 8;
    private static final int IMAGES = 2;

    private static final int WAY_BAD = -10;
    private static final int WAY_NOT_SO_MANY = -5;
    private static final int READ_FAULT = -10;
    private static final int READ_REFUSED = -1000;
    private static final int STATUS_BAD = -1;

    /** A PLACE is one figure, so that how all is packs into one number: the LYING, then PLACES. */
    private static final int PLACES = ROOMS + MOST_BRIDGES;
    private static final int WAYS_TO_STAND = PLACES * PLACES * PLACES;
    private static final int ALL_STATES = (1 << MOST_BRIDGES) * WAYS_TO_STAND;
    /** Its highest number, ALL_STATES - 1, fits into so many bits. */
    private static final int STATE_BITS = 15;
    private static final int BITS_OF_LONG = 64;
    /**
     * The two BRIDGES of a CHAIN lie as now or tipped to one side or the other, and no BRIDGE
     * without a CHAIN ever turns: two CHAINS make nine LYINGS at most.
     */
    private static final int MOST_REACHED = 9 * WAYS_TO_STAND;

    private final Fort now;
    /** Holds what is tried out, so that looking ahead never touches how all is now. */
    private final Fort trial;
    private final Fort[] images;
    private final boolean[] kept;
    private final Text text;
    private final Reader reader;
    private final Search search;
    private int badCalls;
    private int noCalls;
    private int fullCalls;

    public MiserBridges() {
        now = new Fort();
        trial = new Fort();
        images = new Fort[] {new Fort(), new Fort()};
        kept = new boolean[IMAGES];
        text = new Text();
        reader = new Reader();
        search = new Search();
    }

    // ---- a fort

    public int bridge(int a, int b, int kind, boolean down) {
        return counted(now.addBridge(a, b, kind, down));
    }

    public int chain(int a, int b, int rust) {
        return counted(now.addChain(a, b, rust));
    }

    public int load(int bridge, int pounds) {
        return counted(now.setBallast(bridge, pounds));
    }

    public int one(int pounds, int room) {
        return counted(now.addPerson(pounds, room));
    }

    public int weight(int bridge) {
        return now.isBridge(bridge) ? now.loadOn(bridge) : counted(BAD);
    }

    public int where(int person) {
        return now.isPerson(person) ? now.place[person] : counted(BAD);
    }

    public int lying() {
        return now.lying;
    }

    public int type(long v, int n) {
        return counted(text.append(v, n));
    }

    public int clear() {
        return text.wipe();
    }

    public int read() {
        int answer = reader.readInto(trial, text);
        if (answer >= 0) {
            now.take(trial);
        }
        return answer;
    }

    // ---- steps

    public int step(int person, int place) {
        if (!now.isPerson(person) || !now.isPlace(place)) {
            return counted(BAD);
        }
        if (!now.canGo(person, place)) {
            return counted(NO);
        }
        now.past.push(now.packed());
        now.go(person, place);
        return now.lying;
    }

    public int undo() {
        if (now.past.size == 0) {
            return counted(NO);
        }
        now.unpack(now.past.pop());
        return now.lying;
    }

    public int way(int some, int room, int i) {
        if (!now.areSome(some) || !isRoom(room) || i < NONE) {
            counted(BAD);
            return WAY_BAD;
        }
        int steps = stepsNow(some, room);
        if (steps == NONE || i == NONE) {
            return steps;
        }
        return i < steps ? search.stepOfWay(i, steps) : WAY_NOT_SO_MANY;
    }

    // ---- how bridges can lie

    public int reach(int what) {
        if (what < 0 || what > 3) {
            return counted(BAD);
        }
        int lyings = lyingsNow();
        switch (what) {
            case 0:
                return search.found;
            case 1:
                return Integer.bitCount(lyings);
            case 2:
                return downInAll(lyings, now.allBridges());
            default:
                return now.allBridges() & ~downInSome(lyings);
        }
    }

    public int can(int lying) {
        if (!now.areBridges(lying)) {
            return counted(BAD);
        }
        return isAmong(lyingsNow(), lying) ? 1 : 0;
    }

    public int closed(int room) {
        if (!isRoom(room)) {
            return counted(BAD);
        }
        int lyings = lyingsNow();
        int bridges = now.bridgesOf(room);
        for (int lying = 0; lying <= now.allBridges(); lying++) {
            if (isAmong(lyings, lying) && (lying & bridges) == 0) {
                return 1;
            }
        }
        return 0;
    }

    public int child(int person) {
        if (!now.isPerson(person)) {
            return counted(BAD);
        }
        int with = lyingsNow();
        trial.take(now);
        trial.leaveOut(person);
        search.shorter(trial, 0, NONE, NONE);
        return Integer.bitCount(with & ~search.lyings);
    }

    // ---- chains, stones

    public int cut(int some, int room) {
        if (!now.areSome(some) || !isRoom(room)) {
            return counted(BAD);
        }
        int least = stepsNow(some, room);
        int answer = NONE;
        for (int chain = 0; chain < now.chains; chain++) {
            trial.take(now);
            trial.dropChain(chain);
            int steps = search.shorter(trial, some, room, least);
            if (steps != NONE) {
                least = steps;
                answer = chain;
            }
        }
        return answer;
    }

    public int tie(int some, int room) {
        if (!now.areSome(some) || !isRoom(room)) {
            return counted(BAD);
        }
        int least = stepsNow(some, room);
        int answer = NONE;
        for (int a = 0; a < now.bridges; a++) {
            for (int b = a + 1; b < now.bridges; b++) {
                trial.take(now);
                // Where two of five are free there is one CHAIN at most: none is refused as FULL.
                boolean tied = trial.addChain(a, b, 0) >= 0;
                int steps = tied ? search.shorter(trial, some, room, least) : NONE;
                if (steps != NONE) {
                    least = steps;
                    answer = 10 * a + b;
                }
            }
        }
        return answer;
    }

    public int stone(int some, int room, int v) {
        if (!now.areSome(some) || !isRoom(room) || !isStone(v)) {
            return counted(BAD);
        }
        int least = stepsNow(some, room);
        int answer = NONE;
        for (int bridge = 0; bridge < now.bridges; bridge++) {
            trial.take(now);
            trial.addStones(1 << bridge, v);
            int steps = search.shorter(trial, some, room, least);
            if (steps != NONE) {
                least = steps;
                answer = bridge;
            }
        }
        return answer;
    }

    public int keep(int person, int room, int v) {
        if (!now.isPerson(person) || !isRoom(room) || !isStone(v)) {
            return counted(BAD);
        }
        for (int stones = 0; stones <= now.bridges; stones++) {
            for (int bridges = 0; bridges <= now.allBridges(); bridges++) {
                if (Integer.bitCount(bridges) == stones) {
                    trial.take(now);
                    trial.leaveAlone(person);
                    trial.addStones(bridges, v);
                    if (search.shorter(trial, 1, room, NONE) == NONE) {
                        return bridges;
                    }
                }
            }
        }
        return NONE;
    }

    public int wet(int person, int n, int place, int bridges) {
        boolean told = now.isPerson(person) && now.isPlace(place) && now.areBridges(bridges);
        if (!told || n < 0 || n > MOST_WET_STEPS) {
            return counted(BAD);
        }
        trial.take(now);
        trial.leaveAlone(person);
        return rowsOf(trial, n, place, bridges, 0);
    }

    // ---- what there is

    public int image(int i) {
        if (!isImage(i)) {
            return counted(BAD);
        }
        images[i].take(now);
        kept[i] = true;
        return 1;
    }

    public int from(int i) {
        if (!isImage(i)) {
            return counted(BAD);
        }
        if (!kept[i]) {
            return counted(NO);
        }
        now.take(images[i]);
        return 1;
    }

    public int status(int what) {
        switch (what) {
            case 0:
                return badCalls;
            case 1:
                return noCalls;
            case 2:
                return fullCalls;
            default:
                counted(BAD);
                return STATUS_BAD;
        }
    }

    public int count(int what) {
        switch (what) {
            case 0:
                return now.bridges;
            case 1:
                return now.chains;
            case 2:
                return now.people;
            case 3:
                return now.past.size;
            case 4:
                return text.length;
            default:
                return counted(BAD);
        }
    }

    public long digest() {
        long h = 773;
        h = 31 * h + now.bridges;
        h = 31 * h + now.chains;
        h = 31 * h + now.people;
        h = 31 * h + now.past.size;
        h = 31 * h + text.length;
        return now.digestOn(h);
    }

    private int counted(int answer) {
        if (answer == BAD) {
            badCalls++;
        } else if (answer == NO) {
            noCalls++;
        } else if (answer == FULL) {
            fullCalls++;
        }
        return answer;
    }

    private int stepsNow(int some, int room) {
        trial.take(now);
        return search.shorter(trial, some, room, NONE);
    }

    private int lyingsNow() {
        trial.take(now);
        search.shorter(trial, 0, NONE, NONE);
        return search.lyings;
    }

    private static boolean isRoom(int room) {
        return room >= 0 && room < ROOMS;
    }

    private static boolean isStone(int v) {
        return v >= 1 && v <= MOST_STONE;
    }

    private static boolean isImage(int i) {
        return i >= 0 && i < IMAGES;
    }

    private static boolean isAmong(int lyings, int lying) {
        return (lyings >> lying & 1) == 1;
    }

    private static int downInAll(int lyings, int allBridges) {
        int down = allBridges;
        for (int lying = 0; lying <= allBridges; lying++) {
            if (isAmong(lyings, lying)) {
                down &= lying;
            }
        }
        return down;
    }

    private static int downInSome(int lyings) {
        int down = 0;
        for (int lying = 0; lying < 1 << MOST_BRIDGES; lying++) {
            if (isAmong(lyings, lying)) {
                down |= lying;
            }
        }
        return down;
    }

    /** How many rows of so many steps bring the one who is there to the place, over just these. */
    private static int rowsOf(Fort fort, int left, int place, int bridges, int wetBefore) {
        int here = fort.place[0];
        int wetNow = here < ROOMS ? wetBefore : wetBefore | 1 << (here - ROOMS);
        if ((wetNow & ~bridges) != 0) {
            return 0;
        }
        if (left <= 0) {
            return here == place && wetNow == bridges ? 1 : 0;
        }
        int state = fort.packed();
        int rows = 0;
        for (int to = 0; to < ROOMS + fort.bridges; to++) {
            if (fort.canGo(0, to)) {
                fort.go(0, to);
                rows += rowsOf(fort, left - 1, place, bridges, wetNow);
                fort.unpack(state);
            }
        }
        return rows;
    }

    /** The kind all others are under: what pounds on a bridge load it with, and how it turns. */
    private static class Plain {
        int loadBy(int pounds) {
            return pounds;
        }

        boolean mayRise() {
            return true;
        }

        boolean mayFall() {
            return true;
        }
    }

    private static class False extends Plain {
        int loadBy(int pounds) {
            return pounds / 2;
        }
    }

    private static class Doubled extends Plain {
        int loadBy(int pounds) {
            return 2 * pounds;
        }
    }

    private static final class Latched extends Plain {
        boolean mayRise() {
            return false;
        }
    }

    private static final class Jammed extends False {
        boolean mayFall() {
            return false;
        }
    }

    private static final class Greased extends Doubled {
        int loadBy(int pounds) {
            int doubled = super.loadBy(pounds);
            return doubled > 0 ? doubled + 1 : doubled;
        }
    }

    /** How all was ahead of the last steps; the oldest gives way to a new one. */
    private static final class Past {
        private final int[] states = new int[MOST_UNDONE];
        private int size;

        void push(int state) {
            if (size == MOST_UNDONE) {
                System.arraycopy(states, 1, states, 0, MOST_UNDONE - 1);
                size--;
            }
            states[size] = state;
            size++;
        }

        int pop() {
            if (size == 0) {
                return NONE;
            }
            size--;
            return states[size];
        }

        void forget() {
            size = 0;
        }

        void take(Past other) {
            size = other.size;
            System.arraycopy(other.states, 0, states, 0, MOST_UNDONE);
        }
    }

    /** Bridges, chains, ballast, people, how they lie and stand, and the steps behind that. */
    private static final class Fort {
        private final Plain[] kinds = {
            new Plain(), new False(), new Doubled(), new Latched(), new Jammed(), new Greased()
        };
        private int bridges;
        private final int[] roomA = new int[MOST_BRIDGES];
        private final int[] roomB = new int[MOST_BRIDGES];
        private final int[] kind = new int[MOST_BRIDGES];
        private final int[] ballast = new int[MOST_BRIDGES];
        private int lying;
        private int chains;
        private final int[] chainA = new int[MOST_CHAINS];
        private final int[] chainB = new int[MOST_CHAINS];
        private final int[] rust = new int[MOST_CHAINS];
        private int people;
        private final int[] pounds = new int[MOST_PEOPLE];
        private final int[] place = new int[MOST_PEOPLE];
        private final Past past = new Past();

        void empty() {
            bridges = 0;
            lying = 0;
            chains = 0;
            people = 0;
            past.forget();
        }

        void take(Fort other) {
            bridges = other.bridges;
            System.arraycopy(other.roomA, 0, roomA, 0, MOST_BRIDGES);
            System.arraycopy(other.roomB, 0, roomB, 0, MOST_BRIDGES);
            System.arraycopy(other.kind, 0, kind, 0, MOST_BRIDGES);
            System.arraycopy(other.ballast, 0, ballast, 0, MOST_BRIDGES);
            lying = other.lying;
            chains = other.chains;
            System.arraycopy(other.chainA, 0, chainA, 0, MOST_CHAINS);
            System.arraycopy(other.chainB, 0, chainB, 0, MOST_CHAINS);
            System.arraycopy(other.rust, 0, rust, 0, MOST_CHAINS);
            people = other.people;
            System.arraycopy(other.pounds, 0, pounds, 0, MOST_PEOPLE);
            System.arraycopy(other.place, 0, place, 0, MOST_PEOPLE);
            past.take(other.past);
        }

        int addBridge(int a, int b, int kindTold, boolean down) {
            if (!isRoom(a) || !isRoom(b) || a == b || kindTold < 0 || kindTold >= KINDS) {
                return BAD;
            }
            if (bridges == MOST_BRIDGES) {
                return FULL;
            }
            roomA[bridges] = a;
            roomB[bridges] = b;
            kind[bridges] = kindTold;
            ballast[bridges] = 0;
            if (down) {
                lying |= 1 << bridges;
            }
            past.forget();
            return bridges++;
        }

        int addChain(int a, int b, int rustTold) {
            if (!isBridge(a) || !isBridge(b) || a == b || rustTold < 0 || rustTold > MOST_RUST) {
                return BAD;
            }
            if (isTied(a) || isTied(b)) {
                return NO;
            }
            if (chains == MOST_CHAINS) {
                return FULL;
            }
            chainA[chains] = a;
            chainB[chains] = b;
            rust[chains] = rustTold;
            past.forget();
            return chains++;
        }

        int setBallast(int bridge, int poundsTold) {
            if (!isBridge(bridge) || poundsTold < 0 || poundsTold > MOST_BALLAST) {
                return BAD;
            }
            int before = ballast[bridge];
            ballast[bridge] = poundsTold;
            return before;
        }

        int addPerson(int poundsTold, int room) {
            if (poundsTold < 1 || poundsTold > MOST_POUNDS || !isRoom(room)) {
                return BAD;
            }
            if (people == MOST_PEOPLE) {
                return FULL;
            }
            pounds[people] = poundsTold;
            place[people] = room;
            past.forget();
            return people++;
        }

        boolean isBridge(int bridge) {
            return bridge >= 0 && bridge < bridges;
        }

        boolean isPerson(int person) {
            return person >= 0 && person < people;
        }

        boolean isPlace(int told) {
            return told >= 0 && told < ROOMS + bridges;
        }

        boolean areBridges(int bits) {
            return bits >= 0 && bits <= allBridges();
        }

        boolean areSome(int bits) {
            return bits >= 0 && bits < 1 << people;
        }

        int allBridges() {
            return (1 << bridges) - 1;
        }

        int bridgesOf(int room) {
            int bits = 0;
            for (int bridge = 0; bridge < bridges; bridge++) {
                if (joins(bridge, room)) {
                    bits |= 1 << bridge;
                }
            }
            return bits;
        }

        private boolean joins(int bridge, int room) {
            return roomA[bridge] == room || roomB[bridge] == room;
        }

        private boolean isDown(int bridge) {
            return (lying >> bridge & 1) == 1;
        }

        private boolean isTied(int bridge) {
            for (int chain = 0; chain < chains; chain++) {
                if (chainA[chain] == bridge || chainB[chain] == bridge) {
                    return true;
                }
            }
            return false;
        }

        int loadOn(int bridge) {
            int sum = ballast[bridge];
            for (int person = 0; person < people; person++) {
                if (place[person] == ROOMS + bridge) {
                    sum += pounds[person];
                }
            }
            return kinds[kind[bridge]].loadBy(sum);
        }

        boolean areIn(int some, int room) {
            for (int person = 0; person < people; person++) {
                if ((some >> person & 1) == 1 && place[person] != room) {
                    return false;
                }
            }
            return true;
        }

        boolean canGo(int person, int to) {
            int here = place[person];
            if ((here < ROOMS) == (to < ROOMS)) {
                return false;
            }
            int room = Math.min(here, to);
            int bridge = Math.max(here, to) - ROOMS;
            return isDown(bridge) && joins(bridge, room);
        }

        void go(int person, int to) {
            place[person] = to;
            for (int chain = 0; chain < chains; chain++) {
                int a = chainA[chain];
                int b = chainB[chain];
                int more = loadOn(a) - loadOn(b);
                if (more > rust[chain]) {
                    tip(a, b);
                } else if (-more > rust[chain]) {
                    tip(b, a);
                }
            }
        }

        private void tip(int heavy, int light) {
            boolean falls = isDown(heavy) || kinds[kind[heavy]].mayFall();
            boolean rises = !isDown(light) || kinds[kind[light]].mayRise();
            if (falls && rises) {
                lying = (lying | 1 << heavy) & ~(1 << light);
            }
        }

        void dropChain(int chain) {
            chains--;
            for (int i = chain; i < chains; i++) {
                chainA[i] = chainA[i + 1];
                chainB[i] = chainB[i + 1];
                rust[i] = rust[i + 1];
            }
        }

        /** Not held to the most that may be told: these stones are only thought of. */
        void addStones(int bits, int v) {
            for (int bridge = 0; bridge < bridges; bridge++) {
                if ((bits >> bridge & 1) == 1) {
                    ballast[bridge] += v;
                }
            }
        }

        void leaveOut(int person) {
            people--;
            for (int i = person; i < people; i++) {
                pounds[i] = pounds[i + 1];
                place[i] = place[i + 1];
            }
        }

        /** The one who stays is person 0 then. */
        void leaveAlone(int person) {
            pounds[0] = pounds[person];
            place[0] = place[person];
            people = 1;
        }

        int packed() {
            int state = lying;
            for (int person = 0; person < MOST_PEOPLE; person++) {
                state = PLACES * state + (person < people ? place[person] : 0);
            }
            return state;
        }

        void unpack(int state) {
            int rest = state;
            for (int person = MOST_PEOPLE - 1; person >= 0; person--) {
                place[person] = rest % PLACES;
                rest /= PLACES;
            }
            lying = rest;
        }

        long digestOn(long before) {
            long h = before;
            for (int bridge = 0; bridge < bridges; bridge++) {
                h = 31 * h + roomA[bridge];
                h = 31 * h + roomB[bridge];
                h = 31 * h + kind[bridge];
                h = 31 * h + ballast[bridge];
            }
            h = 31 * h + lying;
            for (int chain = 0; chain < chains; chain++) {
                h = 31 * h + chainA[chain];
                h = 31 * h + chainB[chain];
                h = 31 * h + rust[chain];
            }
            for (int person = 0; person < people; person++) {
                h = 31 * h + pounds[person];
                h = 31 * h + place[person];
            }
            return h;
        }
    }

    /**
     * Goes through all that steps can lead to, breadth first. Steps are tried in their order, so
     * the first state found of those that are as near has the first row of steps, too.
     */
    private static final class Search {
        /** States as they are found, and above their bits where in here the one before stands. */
        private final int[] states = new int[MOST_REACHED];
        /** A bit for each state. */
        private final long[] seen = new long[ALL_STATES / BITS_OF_LONG];
        private int found;
        private int lyings;
        private int goal;

        /**
         * The fewest steps until all of some are in the room, if they are fewer than told (NONE:
         * however many), or NONE. With NONE as the room all that can be is gone through.
         */
        int shorter(Fort fort, int some, int room, int than) {
            int limit = than == NONE ? MOST_REACHED : than - 1;
            begin(fort.packed());
            int first = 0;
            for (int steps = 0; steps <= limit && first < found; steps++) {
                int end = found;
                for (int at = first; at < end; at++) {
                    fort.unpack(stateAt(at));
                    if (room != NONE && fort.areIn(some, room)) {
                        goal = at;
                        return steps;
                    }
                    if (steps < limit) {
                        goOn(fort, at);
                    }
                }
                first = end;
            }
            return NONE;
        }

        private void begin(int state) {
            Arrays.fill(seen, 0L);
            found = 0;
            lyings = 0;
            goal = 0;
            note(state, 0);
        }

        private void goOn(Fort fort, int at) {
            int state = stateAt(at);
            for (int person = 0; person < fort.people; person++) {
                boolean inRoom = fort.place[person] < ROOMS;
                int end = inRoom ? ROOMS + fort.bridges : ROOMS;
                for (int to = inRoom ? ROOMS : 0; to < end; to++) {
                    if (fort.canGo(person, to)) {
                        fort.go(person, to);
                        note(fort.packed(), at);
                        fort.unpack(state);
                    }
                }
            }
        }

        private void note(int state, int before) {
            long bit = 1L << state % BITS_OF_LONG;
            int word = state / BITS_OF_LONG;
            if (found == MOST_REACHED || (seen[word] & bit) != 0) {
                return;
            }
            seen[word] |= bit;
            states[found] = before << STATE_BITS | state;
            found++;
            lyings |= 1 << state / WAYS_TO_STAND;
        }

        private int stateAt(int at) {
            return states[at] & (1 << STATE_BITS) - 1;
        }

        private int before(int at) {
            return states[at] >> STATE_BITS;
        }

        /** The i-th step of the way of so many steps that was found last. */
        int stepOfWay(int i, int steps) {
            int at = goal;
            for (int step = steps - 1; step > i; step--) {
                at = before(at);
            }
            return stepBetween(stateAt(before(at)), stateAt(at));
        }

        /** A step moves one person alone, so the place that is another one tells who it was. */
        private static int stepBetween(int before, int after) {
            int restBefore = before;
            int restAfter = after;
            for (int person = MOST_PEOPLE - 1; person >= 0; person--) {
                if (restBefore % PLACES != restAfter % PLACES) {
                    return 10 * person + restAfter % PLACES;
                }
                restBefore /= PLACES;
                restAfter /= PLACES;
            }
            return NONE;
        }
    }

    /** The bytes of a text, and the token of it that is looked at. */
    private static final class Text {
        private static final int END = 0;
        private static final int WORD = 1;
        private static final int NUMBER = 2;
        private static final int STOP = 3;
        /** What can stand nowhere: no byte of a token, no word of an item, no number. */
        private static final int WRONG = 4;

        private final int[] bytes = new int[MOST_BYTES];
        private int length;
        private int token;
        private int start;
        private int end;
        /** What a number says, or which item a word begins. */
        private int value;

        int append(long v, int n) {
            if (n < 1 || n > MOST_BYTES_AT_ONCE) {
                return BAD;
            }
            if (length + n > MOST_BYTES) {
                return FULL;
            }
            for (int i = n - 1; i >= 0; i--) {
                bytes[length] = (int) (v >>> 8 * i & 255);
                length++;
            }
            return length;
        }

        int wipe() {
            int before = length;
            length = 0;
            return before;
        }

        void lookAtFirst() {
            end = 0;
            lookAtNext();
        }

        void lookAtNext() {
            start = end;
            while (start < length && bytes[start] == ' ') {
                start++;
            }
            end = start;
            if (start == length) {
                token = END;
            } else if (isLetter(bytes[start])) {
                takeWord();
            } else if (isFigure(bytes[start])) {
                takeNumber();
            } else {
                end++;
                token = bytes[start] == ';' ? STOP : WRONG;
            }
        }

        private void takeWord() {
            while (end < length && isLetter(bytes[end])) {
                end++;
            }
            value = itemOfWord();
            token = value == NONE ? WRONG : WORD;
        }

        private void takeNumber() {
            value = 0;
            token = NUMBER;
            while (end < length && isFigure(bytes[end])) {
                value = 10 * value + bytes[end] - '0';
                end++;
                if (end - start > 2) {
                    token = WRONG;
                    return;
                }
            }
        }

        private int itemOfWord() {
            if (isWord("bridge")) {
                return Reader.BRIDGE;
            }
            if (isWord("down")) {
                return Reader.DOWN;
            }
            if (isWord("chain")) {
                return Reader.CHAIN;
            }
            if (isWord("one")) {
                return Reader.ONE;
            }
            return isWord("load") ? Reader.LOAD : NONE;
        }

        private boolean isWord(String word) {
            if (word.length() != end - start) {
                return false;
            }
            for (int i = 0; i < word.length(); i++) {
                if (word.charAt(i) != bytes[start + i]) {
                    return false;
                }
            }
            return true;
        }

        private static boolean isLetter(int sign) {
            return sign >= 'a' && sign <= 'z';
        }

        private static boolean isFigure(int sign) {
            return sign >= '0' && sign <= '9';
        }
    }

    /** Tells a fort what the items of a text say. */
    private static final class Reader {
        private static final int BRIDGE = 0;
        private static final int DOWN = 1;
        private static final int CHAIN = 2;
        private static final int ONE = 3;
        private static final int LOAD = 4;
        /** How many numbers an item of each has. */
        private static final int[] NUMBERS = {3, 3, 3, 2, 2};

        private final int[] numbers = new int[3];
        private int item;

        /** A fault anywhere comes ahead of an item refused, so the whole text is gone through. */
        int readInto(Fort fort, Text text) {
            int items = 0;
            int refused = NONE;
            fort.empty();
            text.lookAtFirst();
            while (text.token != Text.END && items < MOST_BYTES) {
                if (!readItem(text)) {
                    return READ_FAULT - text.start;
                }
                if (refused == NONE && tell(fort) < 0) {
                    refused = items;
                }
                items++;
            }
            return refused == NONE ? items : READ_REFUSED - refused;
        }

        /** Where it fails, the text stays at the token that can not stand there. */
        private boolean readItem(Text text) {
            if (text.token != Text.WORD) {
                return false;
            }
            item = text.value;
            for (int i = 0; i < NUMBERS[item]; i++) {
                text.lookAtNext();
                if (text.token != Text.NUMBER) {
                    return false;
                }
                numbers[i] = text.value;
            }
            text.lookAtNext();
            if (text.token != Text.STOP) {
                return false;
            }
            text.lookAtNext();
            return true;
        }

        private int tell(Fort fort) {
            switch (item) {
                case BRIDGE:
                    return fort.addBridge(numbers[0], numbers[1], numbers[2], false);
                case DOWN:
                    return fort.addBridge(numbers[0], numbers[1], numbers[2], true);
                case CHAIN:
                    return fort.addChain(numbers[0], numbers[1], numbers[2]);
                case ONE:
                    return fort.addPerson(numbers[0], numbers[1]);
                default:
                    return fort.setBallast(numbers[0], numbers[1]);
            }
        }
    }
}
