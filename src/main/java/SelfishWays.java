/**
 * Players on a net of roads, each going where it is cheapest for itself, and a stream that parts
 * over lanes side by side. All numbers are whole numbers or exact fractions of them.
 */
public final class SelfishWays {
    public static final int NONE = -1, UNKNOWN = -101, OUTSIDE = -102, STATE = -103, FULL = -104;

    private static final int LETTER_LEAST = 32;
    private static final int LETTER_MOST = 126;
    private static final int PAGE_MOST = 92;
    private static final int NODES_LEAST = 2;
    private static final int NODES_MOST = 6;
    private static final int ROADS_MOST = 10;
    private static final int A_MOST = 20;
    private static final int B_MOST = 9;
    private static final int T_MOST = 40;
    private static final int NO_TOLLS = 0;
    private static final int FIXED_TOLLS = 1;
    private static final int TOLLS_BY_OTHERS = 2;
    private static final int PLAYERS_MOST = 5;
    private static final int WAYS_MOST = 12;
    private static final int WAY_ROADS_MOST = NODES_MOST - 1;
    private static final int TURNS_MOST = 60;
    private static final int SETS_MOST = 500;
    // Each turn lessens the potential, which never comes near to this.
    private static final int SETTLING_MOST = 1000000;
    private static final int LANES_MOST = 5;
    private static final int STREAM_MOST = 40;
    private static final int SHARE_WHOLE = 10;
    private static final int KINDS = 4;
    private static final int EVEN = 0;
    private static final int WISE = 1;
    private static final int LED = 2;
    private static final int LEADERS = 3;
    private static final int GCD_STEPS_MOST = 200;

    private final Page page;
    private final Traffic traffic;
    private final AllSets allSets;
    private final Lanes lanes;
    private int netsRead;
    private int playersCame;
    private int turnsTaken;

    public SelfishWays() {
        page = new Page();
        traffic = new Traffic();
        allSets = new AllSets();
        lanes = new Lanes();
        netsRead = 0;
        playersCame = 0;
        turnsTaken = 0;
    }

    // ---- texts

    public int letter(int code) {
        if (!within(code, LETTER_LEAST, LETTER_MOST)) {
            return OUTSIDE;
        }
        if (page.size >= PAGE_MOST) {
            return FULL;
        }
        page.letters[page.size] = code;
        page.size++;
        return page.size;
    }

    public int blank() {
        int had = page.size;
        page.size = 0;
        return had;
    }

    public int fault() {
        return page.readIntoDraft();
    }

    public int net() {
        int good = page.readIntoDraft();
        if (good < page.size || !page.isWhole()) {
            return STATE;
        }
        traffic.beginOn(page.draft);
        allSets.known = false;
        page.size = 0;
        netsRead++;
        return traffic.net.roads;
    }

    // ---- the net

    public int about(int what) {
        if (!within(what, 0, 7)) {
            return OUTSIDE;
        }
        if (!hasNet()) {
            return STATE;
        }
        switch (what) {
            case 0: return traffic.net.nodes;
            case 1: return traffic.net.roads;
            case 2: return traffic.tolls;
            case 3: return traffic.socialNow();
            case 4: return traffic.potentialNow();
            case 5: return traffic.restsNow() ? 1 : 0;
            case 6: return traffic.setsInAll();
            default: return traffic.greatestLoad();
        }
    }

    public int road(int road, int what) {
        if (!isRoad(road)) {
            return UNKNOWN;
        }
        if (!within(what, 0, 7)) {
            return OUTSIDE;
        }
        Net net = traffic.net;
        int load = traffic.load[road];
        switch (what) {
            case 0: return net.from[road];
            case 1: return net.to[road];
            case 2: return net.a[road];
            case 3: return net.b[road];
            case 4: return net.t[road];
            case 5: return load;
            case 6: return load == 0 ? NONE : traffic.prices[road][load];
            default: return traffic.prices[road][load + 1];
        }
    }

    public int put(int road, int what, int v) {
        if (!isRoad(road)) {
            return UNKNOWN;
        }
        if (!within(what, 0, 2)) {
            return OUTSIDE;
        }
        Net net = traffic.net;
        int most = what == 0 ? A_MOST : what == 1 ? B_MOST : T_MOST;
        if (!within(v, 0, most)) {
            return OUTSIDE;
        }
        int[] row = what == 0 ? net.a : what == 1 ? net.b : net.t;
        int had = row[road];
        row[road] = v;
        traffic.priceRoads();
        allSets.known = false;
        return had;
    }

    public int mode(int mode) {
        if (!within(mode, NO_TOLLS, TOLLS_BY_OTHERS)) {
            return OUTSIDE;
        }
        int was = traffic.tolls;
        traffic.tolls = mode;
        traffic.priceRoads();
        allSets.known = false;
        return was;
    }

    // ---- players

    public int player(int from, int to) {
        if (!hasNet()) {
            return STATE;
        }
        int lastNode = traffic.net.nodes - 1;
        if (!within(from, 0, lastNode) || !within(to, 0, lastNode) || from == to) {
            return UNKNOWN;
        }
        if (traffic.size >= PLAYERS_MOST) {
            return FULL;
        }
        if (!traffic.admit(from, to)) {
            return STATE;
        }
        allSets.known = false;
        playersCame++;
        return traffic.size - 1;
    }

    public int drop() {
        if (traffic.size == 0) {
            return STATE;
        }
        traffic.dismissLast();
        allSets.known = false;
        return traffic.size;
    }

    public int who(int player, int what) {
        if (!isPlayer(player)) {
            return UNKNOWN;
        }
        if (!within(what, 0, 6)) {
            return OUTSIDE;
        }
        Player one = traffic.players[player];
        switch (what) {
            case 0: return one.from;
            case 1: return one.to;
            case 2: return one.ways;
            case 3: return one.taken;
            case 4: return traffic.payBy(one, one.taken);
            case 5: return traffic.bestWayOf(one);
            default: return traffic.payBy(one, traffic.bestWayOf(one));
        }
    }

    public int way(int player, int way, int place) {
        if (!isWay(player, way)) {
            return UNKNOWN;
        }
        Player one = traffic.players[player];
        if (!within(place, 0, one.sizes[way] - 1)) {
            return UNKNOWN;
        }
        return one.roads[way][place];
    }

    public int pay(int player, int way) {
        if (!isWay(player, way)) {
            return UNKNOWN;
        }
        return traffic.payBy(traffic.players[player], way);
    }

    public int set(int player, int way) {
        if (!isWay(player, way)) {
            return UNKNOWN;
        }
        Player one = traffic.players[player];
        int had = one.taken;
        traffic.moveTo(one, way);
        return had;
    }

    public int turn() {
        if (!hasNet()) {
            return STATE;
        }
        int mover = traffic.moveFirst(NONE);
        if (mover != NONE) {
            turnsTaken++;
        }
        return mover;
    }

    public int run(int n) {
        if (!within(n, 1, TURNS_MOST)) {
            return OUTSIDE;
        }
        if (!hasNet()) {
            return STATE;
        }
        int turns = 0;
        while (turns < n && traffic.moveFirst(NONE) != NONE) {
            turns++;
        }
        turnsTaken += turns;
        return turns;
    }

    // ---- all there could be

    public int rests(int what) {
        if (!within(what, 0, 5)) {
            return OUTSIDE;
        }
        if (!surveyed()) {
            return STATE;
        }
        switch (what) {
            case 0: return allSets.rests;
            case 1: return allSets.leastRest;
            case 2: return allSets.greatestRest;
            case 3: return allSets.leastSocial;
            case 4: return allSets.leastPotential;
            default: return allSets.timesLeast;
        }
    }

    public int rest(int place, int player) {
        if (!surveyed()) {
            return STATE;
        }
        if (!within(place, 0, allSets.rests - 1) || !isPlayer(player)) {
            return UNKNOWN;
        }
        return allSets.wayIn(allSets.restSets[place], player);
    }

    public int go(int place) {
        if (!surveyed()) {
            return STATE;
        }
        if (!within(place, 0, allSets.rests - 1)) {
            return UNKNOWN;
        }
        traffic.takeSet(allSets.restSets[place]);
        return traffic.socialNow();
    }

    public int best() {
        if (!surveyed()) {
            return STATE;
        }
        traffic.takeSet(allSets.firstLeast);
        return traffic.socialNow();
    }

    public int price(int what) {
        if (!within(what, 0, 3)) {
            return OUTSIDE;
        }
        if (!surveyed()) {
            return STATE;
        }
        int above = what < 2 ? allSets.greatestRest : allSets.leastRest;
        int below = allSets.leastSocial;
        if (below == 0) {
            return what % 2 == 0 || above == 0 ? 1 : 0;
        }
        return what % 2 == 0 ? lowestAbove(above, below) : lowestBelow(above, below);
    }

    public int reach(int what) {
        if (!within(what, 0, 2)) {
            return OUTSIDE;
        }
        if (!surveyed()) {
            return STATE;
        }
        allSets.spreadFrom(traffic.numberOfSet());
        switch (what) {
            case 0: return allSets.reached;
            case 1: return allSets.reachedRests;
            default: return allSets.longest;
        }
    }

    public int lead(int player, int way) {
        if (!isWay(player, way)) {
            return UNKNOWN;
        }
        return traffic.payIfLeading(player, way);
    }

    public int leads(int player) {
        if (!isPlayer(player)) {
            return UNKNOWN;
        }
        return traffic.bestLeadOf(player);
    }

    public int follow(int player) {
        if (!isPlayer(player)) {
            return UNKNOWN;
        }
        return traffic.settleBehind(player, traffic.bestLeadOf(player));
    }

    // ---- lanes

    public int lane(int a, int b) {
        if (!within(a, 0, A_MOST) || (b != 1 && b != 2 && b != 4)) {
            return OUTSIDE;
        }
        if (lanes.size >= LANES_MOST) {
            return FULL;
        }
        lanes.add(a, b);
        return lanes.size - 1;
    }

    public int clear() {
        int had = lanes.size;
        lanes.size = 0;
        lanes.known = false;
        return had;
    }

    public int stream(int d) {
        if (!within(d, 1, STREAM_MOST)) {
            return OUTSIDE;
        }
        int was = lanes.amountInAll;
        lanes.amountInAll = d;
        lanes.known = false;
        return was;
    }

    public int share(int s) {
        if (!within(s, 0, SHARE_WHOLE)) {
            return OUTSIDE;
        }
        int was = lanes.tenthsLed;
        lanes.tenthsLed = s;
        lanes.known = false;
        return was;
    }

    public int flow(int kind, int lane, int what) {
        if (!within(lane, 0, lanes.size - 1)) {
            return UNKNOWN;
        }
        if (!within(kind, 0, KINDS - 1) || !within(what, 0, 1)) {
            return OUTSIDE;
        }
        lanes.partAll();
        long above = lanes.amounts[kind][lane];
        long below = lanes.parts[kind];
        return what == 0 ? lowestAbove(above, below) : lowestBelow(above, below);
    }

    public int level(int what) {
        if (!within(what, 0, 1)) {
            return OUTSIDE;
        }
        if (lanes.size == 0) {
            return STATE;
        }
        lanes.partAll();
        long above = lanes.evenLevel;
        long below = lanes.evenLevelParts;
        return what == 0 ? lowestAbove(above, below) : lowestBelow(above, below);
    }

    public int total(int kind) {
        if (!within(kind, EVEN, LED)) {
            return OUTSIDE;
        }
        if (lanes.size == 0) {
            return STATE;
        }
        lanes.partAll();
        return (int) lanes.thousandths(kind);
    }

    public int worse(int kind) {
        if (!within(kind, EVEN, LED)) {
            return OUTSIDE;
        }
        if (lanes.size == 0) {
            return STATE;
        }
        lanes.partAll();
        long wise = lanes.thousandths(WISE);
        // A stream of one over five lanes costs 200 thousandths at least: this is for rule 7 alone.
        if (wise <= 0) {
            return 0;
        }
        return (int) (10000L * lanes.thousandths(kind) / wise);
    }

    // ---- what is told of all

    public int count(int what) {
        switch (what) {
            case 0: return traffic.net.roads;
            case 1: return traffic.size;
            case 2: return lanes.size;
            case 3: return page.size;
            case 4: return netsRead;
            case 5: return playersCame;
            case 6: return turnsTaken;
            default: return OUTSIDE;
        }
    }

    public long digest() {
        long h = 1543L;
        if (hasNet()) {
            h = mixNet(h);
            h = mixPlayers(h);
            h = mixSets(h);
            h = mixLeads(h);
        }
        h = mixLanes(h);
        for (int i = 0; i < page.size; i++) {
            h = mix(h, page.letters[i]);
        }
        for (int what = 0; what <= 6; what++) {
            h = mix(h, count(what));
        }
        return h;
    }

    private static long mix(long h, long number) {
        return 31L * h + number;
    }

    private long mixNet(long before) {
        long h = before;
        for (int what = 0; what <= 7; what++) {
            h = mix(h, about(what));
        }
        for (int road = 0; road < traffic.net.roads; road++) {
            for (int what = 0; what <= 7; what++) {
                h = mix(h, road(road, what));
            }
        }
        return h;
    }

    private long mixPlayers(long before) {
        long h = before;
        for (int player = 0; player < traffic.size; player++) {
            Player one = traffic.players[player];
            for (int what = 0; what <= 6; what++) {
                h = mix(h, who(player, what));
            }
            for (int way = 0; way < one.ways; way++) {
                h = mix(h, traffic.payBy(one, way));
            }
            for (int place = 0; place < one.sizes[one.taken]; place++) {
                h = mix(h, one.roads[one.taken][place]);
            }
        }
        return h;
    }

    private long mixSets(long before) {
        long h = before;
        if (!surveyed()) {
            return h;
        }
        for (int what = 0; what <= 5; what++) {
            h = mix(h, rests(what));
        }
        for (int what = 0; what <= 3; what++) {
            h = mix(h, price(what));
        }
        for (int what = 0; what <= 2; what++) {
            h = mix(h, reach(what));
        }
        return h;
    }

    private long mixLeads(long before) {
        long h = before;
        for (int player = 0; player < traffic.size; player++) {
            for (int way = 0; way < traffic.players[player].ways; way++) {
                h = mix(h, traffic.payIfLeading(player, way));
            }
        }
        return h;
    }

    private long mixLanes(long before) {
        long h = before;
        for (int lane = 0; lane < lanes.size; lane++) {
            for (int kind = 0; kind < KINDS; kind++) {
                h = mix(h, flow(kind, lane, 0));
                h = mix(h, flow(kind, lane, 1));
            }
        }
        if (lanes.size > 0) {
            h = mix(h, level(0));
            h = mix(h, level(1));
            for (int kind = EVEN; kind <= LED; kind++) {
                h = mix(h, total(kind));
            }
        }
        return h;
    }

    // ---- what the calls share

    private static boolean within(int v, int least, int most) {
        return v >= least && v <= most;
    }

    private boolean hasNet() {
        return traffic.net.roads > 0;
    }

    private boolean isRoad(int road) {
        return within(road, 0, traffic.net.roads - 1);
    }

    private boolean isPlayer(int player) {
        return within(player, 0, traffic.size - 1);
    }

    private boolean isWay(int player, int way) {
        return isPlayer(player) && within(way, 0, traffic.players[player].ways - 1);
    }

    /** Whether all sets may be told; if so, they have been looked through as the net is now. */
    private boolean surveyed() {
        if (traffic.size == 0 || traffic.setsInAll() > SETS_MOST) {
            return false;
        }
        if (!allSets.known) {
            allSets.survey(traffic);
        }
        return true;
    }

    private static long greatestDivisor(long one, long other) {
        long a = one;
        long b = other;
        for (int step = 0; step < GCD_STEPS_MOST && b != 0; step++) {
            long rest = a % b;
            a = b;
            b = rest;
        }
        return a;
    }

    private static int lowestAbove(long above, long below) {
        long divisor = greatestDivisor(above, below);
        return divisor == 0 ? 0 : (int) (above / divisor);
    }

    private static int lowestBelow(long above, long below) {
        long divisor = greatestDivisor(above, below);
        return divisor == 0 ? 1 : (int) (below / divisor);
    }

    /** Nodes, and roads between them. No roads: no net. */
    private static final class Net {
        int nodes;
        int roads;
        final int[] from = new int[ROADS_MOST];
        final int[] to = new int[ROADS_MOST];
        final int[] a = new int[ROADS_MOST];
        final int[] b = new int[ROADS_MOST];
        final int[] t = new int[ROADS_MOST];

        void becomeLike(Net other) {
            nodes = other.nodes;
            roads = other.roads;
            for (int road = 0; road < roads; road++) {
                from[road] = other.from[road];
                to[road] = other.to[road];
                a[road] = other.a[road];
                b[road] = other.b[road];
                t[road] = 0;
            }
        }
    }

    /** The letters that came, and what they say of a net, read letter by letter into a draft. */
    private static final class Page {
        private static final int AT_NODES = 0;
        private static final int AT_ROAD = 1;
        private static final int AT_FROM = 2;
        private static final int AT_ARROW = 3;
        private static final int AT_TO = 4;
        private static final int AT_COLON = 5;
        private static final int AT_A = 6;
        private static final int AT_MORE_OF_A = 7;
        private static final int AT_B = 8;

        final int[] letters = new int[PAGE_MOST];
        int size;
        final Net draft = new Net();
        int phase;

        /** The place of the first letter that no net has there; the size, if there is none. */
        int readIntoDraft() {
            phase = AT_NODES;
            draft.nodes = 0;
            draft.roads = 0;
            for (int place = 0; place < size; place++) {
                phase = phaseBehind(letters[place]);
                if (phase == NONE) {
                    return place;
                }
            }
            return size;
        }

        boolean isWhole() {
            return phase == AT_ROAD && draft.roads > 0;
        }

        private int phaseBehind(int letter) {
            int digit = within(letter, '0', '9') ? letter - '0' : NONE;
            switch (phase) {
                case AT_NODES: return readNodes(digit);
                case AT_ROAD: return letter == ';' && draft.roads < ROADS_MOST ? AT_FROM : NONE;
                case AT_FROM: return readFrom(digit);
                case AT_ARROW: return letter == '>' ? AT_TO : NONE;
                case AT_TO: return readTo(digit);
                case AT_COLON: return letter == ':' ? AT_A : NONE;
                case AT_A: return readA(digit);
                case AT_MORE_OF_A: return letter == '+' ? AT_B : readMoreOfA(digit);
                case AT_B: return readB(digit);
                default: return NONE;
            }
        }

        private int readNodes(int digit) {
            if (!within(digit, NODES_LEAST, NODES_MOST)) {
                return NONE;
            }
            draft.nodes = digit;
            return AT_ROAD;
        }

        private int readFrom(int digit) {
            if (!within(digit, 0, draft.nodes - 1)) {
                return NONE;
            }
            draft.from[draft.roads] = digit;
            return AT_ARROW;
        }

        private int readTo(int digit) {
            if (!within(digit, 0, draft.nodes - 1) || digit == draft.from[draft.roads]) {
                return NONE;
            }
            draft.to[draft.roads] = digit;
            return AT_COLON;
        }

        private int readA(int digit) {
            if (digit == NONE) {
                return NONE;
            }
            draft.a[draft.roads] = digit;
            return AT_MORE_OF_A;
        }

        private int readMoreOfA(int digit) {
            int ahead = draft.a[draft.roads];
            if (digit == NONE || ahead == 0 || 10 * ahead + digit > A_MOST) {
                return NONE;
            }
            draft.a[draft.roads] = 10 * ahead + digit;
            return AT_MORE_OF_A;
        }

        private int readB(int digit) {
            if (digit == NONE) {
                return NONE;
            }
            draft.b[draft.roads] = digit;
            draft.roads++;
            return AT_ROAD;
        }
    }

    /** One that goes from a node to another one, with all its ways in their order. */
    private static final class Player {
        int from;
        int to;
        int ways;
        int taken;
        final int[] sizes = new int[WAYS_MOST];
        // A bit for each road, to see at once whether a way has it.
        final int[] masks = new int[WAYS_MOST];
        final int[][] roads = new int[WAYS_MOST][WAY_ROADS_MOST];
        final int[] path = new int[WAY_ROADS_MOST];

        /** Finds all ways; one more than are allowed is counted, not kept, and ends the search. */
        void findWays(Net net) {
            ways = 0;
            taken = 0;
            for (int wanted = 1; wanted < net.nodes; wanted++) {
                extend(net, this, from, 0, wanted, 1 << from);
            }
        }

        // Looking for one size after the other, roads from the least up, finds them in their order.
        private static void extend(Net net, Player one, int node, int depth, int wanted, int seen) {
            if (depth >= wanted || depth >= WAY_ROADS_MOST) {
                if (node == one.to) {
                    one.keepPath(depth);
                }
                return;
            }
            for (int road = 0; road < net.roads && one.ways <= WAYS_MOST; road++) {
                int next = net.to[road];
                if (net.from[road] == node && (seen >> next & 1) == 0) {
                    one.path[depth] = road;
                    extend(net, one, next, depth + 1, wanted, seen | 1 << next);
                }
            }
        }

        private void keepPath(int size) {
            if (ways < WAYS_MOST) {
                sizes[ways] = size;
                masks[ways] = 0;
                for (int place = 0; place < size; place++) {
                    roads[ways][place] = path[place];
                    masks[ways] |= 1 << path[place];
                }
            }
            ways++;
        }
    }

    /** The net with its players: who takes which way, what they pay, who moves. */
    private static final class Traffic {
        final Net net = new Net();
        final Player[] players = new Player[PLAYERS_MOST];
        int size;
        int tolls;
        final int[] load = new int[ROADS_MOST];
        // What a player pays at a road by its load, up to one more than all players.
        final int[][] prices = new int[ROADS_MOST][PLAYERS_MOST + 2];
        final int[] kept = new int[PLAYERS_MOST];

        Traffic() {
            for (int player = 0; player < PLAYERS_MOST; player++) {
                players[player] = new Player();
            }
        }

        void beginOn(Net read) {
            net.becomeLike(read);
            size = 0;
            for (int road = 0; road < ROADS_MOST; road++) {
                load[road] = 0;
            }
            priceRoads();
        }

        void priceRoads() {
            for (int road = 0; road < net.roads; road++) {
                int fixed = net.a[road] + (tolls == FIXED_TOLLS ? net.t[road] : 0);
                int byOthers = tolls == TOLLS_BY_OTHERS ? net.b[road] : 0;
                for (int k = 1; k <= PLAYERS_MOST + 1; k++) {
                    prices[road][k] = fixed + net.b[road] * k + byOthers * (k - 1);
                }
            }
        }

        /** Whether the player could come: it needs a way, and not more than are allowed. */
        boolean admit(int from, int to) {
            Player one = players[size];
            one.from = from;
            one.to = to;
            one.findWays(net);
            if (one.ways == 0 || one.ways > WAYS_MOST) {
                return false;
            }
            size++;
            // On its first way, so that its best way is the first one of the least pay.
            burden(one, 1);
            moveTo(one, bestWayOf(one));
            return true;
        }

        void dismissLast() {
            if (size > 0) {
                size--;
                burden(players[size], -1);
            }
        }

        private void burden(Player one, int by) {
            for (int place = 0; place < one.sizes[one.taken]; place++) {
                load[one.roads[one.taken][place]] += by;
            }
        }

        void moveTo(Player one, int way) {
            if (way != one.taken) {
                burden(one, -1);
                one.taken = way;
                burden(one, 1);
            }
        }

        int payBy(Player one, int way) {
            int already = one.masks[one.taken];
            int sum = 0;
            for (int place = 0; place < one.sizes[way]; place++) {
                int road = one.roads[way][place];
                int more = (already >> road & 1) == 1 ? 0 : 1;
                sum += prices[road][load[road] + more];
            }
            return sum;
        }

        int bestWayOf(Player one) {
            int found = one.taken;
            int least = payBy(one, one.taken);
            for (int way = 0; way < one.ways; way++) {
                int sum = payBy(one, way);
                if (sum < least) {
                    least = sum;
                    found = way;
                }
            }
            return found;
        }

        boolean restsNow() {
            for (int player = 0; player < size; player++) {
                if (bestWayOf(players[player]) != players[player].taken) {
                    return false;
                }
            }
            return true;
        }

        /** A turn of all but the one that stays (NONE: of all): who moved, NONE if nobody would. */
        int moveFirst(int staying) {
            for (int player = 0; player < size; player++) {
                Player one = players[player];
                int best = player == staying ? one.taken : bestWayOf(one);
                if (best != one.taken) {
                    moveTo(one, best);
                    return player;
                }
            }
            return NONE;
        }

        /** The player takes the way and stays, the others take turns till none would: its pay. */
        int settleBehind(int player, int way) {
            moveTo(players[player], way);
            for (int turns = 0; turns < SETTLING_MOST; turns++) {
                if (moveFirst(player) == NONE) {
                    break;
                }
            }
            return payBy(players[player], way);
        }

        int payIfLeading(int player, int way) {
            keepSet();
            int sum = settleBehind(player, way);
            takeKeptSet();
            return sum;
        }

        int bestLeadOf(int player) {
            int found = 0;
            int least = payIfLeading(player, 0);
            for (int way = 1; way < players[player].ways; way++) {
                int sum = payIfLeading(player, way);
                if (sum < least) {
                    least = sum;
                    found = way;
                }
            }
            return found;
        }

        void keepSet() {
            for (int player = 0; player < size; player++) {
                kept[player] = players[player].taken;
            }
        }

        void takeKeptSet() {
            for (int player = 0; player < size; player++) {
                moveTo(players[player], kept[player]);
            }
        }

        int setsInAll() {
            int product = 1;
            for (int player = 0; player < size; player++) {
                product *= players[player].ways;
            }
            return product;
        }

        /** The set's place in the order of all sets: the least player's way weighs most. */
        int numberOfSet() {
            int number = 0;
            for (int player = 0; player < size; player++) {
                number = number * players[player].ways + players[player].taken;
            }
            return number;
        }

        void takeSet(int number) {
            int left = number;
            for (int player = size - 1; player >= 0; player--) {
                int ways = players[player].ways;
                if (ways > 0) {
                    moveTo(players[player], left % ways);
                    left /= ways;
                }
            }
        }

        int socialNow() {
            int sum = 0;
            for (int road = 0; road < net.roads; road++) {
                sum += load[road] * (net.a[road] + net.b[road] * load[road]);
            }
            return sum;
        }

        int potentialNow() {
            int sum = 0;
            for (int road = 0; road < net.roads; road++) {
                for (int k = 1; k <= load[road]; k++) {
                    sum += prices[road][k];
                }
            }
            return sum;
        }

        int greatestLoad() {
            int most = 0;
            for (int road = 0; road < net.roads; road++) {
                most = Math.max(most, load[road]);
            }
            return most;
        }
    }

    /**
     * All sets, looked through once for a net with its players. By a change of one player the
     * potential grows by just as much as that player's pay: so a change pays if, and only if, the
     * potential is less behind it.
     */
    private static final class AllSets {
        boolean known;
        int size;
        int players;
        final int[] ways = new int[PLAYERS_MOST];
        // How far apart the numbers of two sets are in which a player takes neighbouring ways.
        final int[] strides = new int[PLAYERS_MOST];
        final int[] socials = new int[SETS_MOST];
        final int[] potentials = new int[SETS_MOST];
        final int[] restSets = new int[SETS_MOST];
        int rests;
        int leastRest;
        int greatestRest;
        int leastSocial;
        int firstLeast;
        int timesLeast;
        int leastPotential;
        final Spread spread = new Spread();
        int reached;
        int reachedRests;
        int longest;

        void survey(Traffic traffic) {
            size = Math.min(traffic.setsInAll(), SETS_MOST);
            players = traffic.size;
            int stride = 1;
            for (int player = players - 1; player >= 0; player--) {
                ways[player] = traffic.players[player].ways;
                strides[player] = stride;
                stride *= ways[player];
            }
            traffic.keepSet();
            for (int number = 0; number < size; number++) {
                traffic.takeSet(number);
                socials[number] = traffic.socialNow();
                potentials[number] = traffic.potentialNow();
            }
            traffic.takeKeptSet();
            findLeast();
            findRests();
            spread.start = NONE;
            known = true;
        }

        private void findLeast() {
            firstLeast = 0;
            timesLeast = 0;
            leastSocial = socials[0];
            leastPotential = potentials[0];
            for (int number = 0; number < size; number++) {
                leastPotential = Math.min(leastPotential, potentials[number]);
                if (socials[number] < leastSocial) {
                    leastSocial = socials[number];
                    firstLeast = number;
                    timesLeast = 0;
                }
                if (socials[number] == leastSocial) {
                    timesLeast++;
                }
            }
        }

        private void findRests() {
            rests = 0;
            for (int number = 0; number < size; number++) {
                if (isRest(number)) {
                    int social = socials[number];
                    leastRest = rests == 0 ? social : Math.min(leastRest, social);
                    greatestRest = rests == 0 ? social : Math.max(greatestRest, social);
                    restSets[rests] = number;
                    rests++;
                }
            }
        }

        private boolean isRest(int number) {
            for (int player = 0; player < players; player++) {
                int stride = strides[player];
                int first = number - wayIn(number, player) * stride;
                for (int way = 0; way < ways[player]; way++) {
                    if (potentials[first + way * stride] < potentials[number]) {
                        return false;
                    }
                }
            }
            return true;
        }

        int wayIn(int number, int player) {
            int stride = strides[player];
            int all = ways[player];
            return stride > 0 && all > 0 ? number / stride % all : 0;
        }

        /**
         * Goes on from a set in waves, each of all sets to which one more change leads from the one
         * ahead. As the potential falls from wave to wave, no set comes back to itself, and the
         * last wave is as far as the longest row of changes.
         */
        void spreadFrom(int start) {
            if (spread.start == start) {
                return;
            }
            spread.begin(start, size);
            longest = 0;
            for (int step = 1; step <= size && spread.waveSize > 0; step++) {
                for (int i = 0; i < spread.waveSize; i++) {
                    offerChanges(spread.wave[i], step);
                }
                spread.goOn();
                if (spread.waveSize > 0) {
                    longest = step;
                }
            }
            countReached();
        }

        private void offerChanges(int number, int step) {
            for (int player = 0; player < players; player++) {
                int stride = strides[player];
                int first = number - wayIn(number, player) * stride;
                for (int way = 0; way < ways[player]; way++) {
                    int other = first + way * stride;
                    if (potentials[other] < potentials[number]) {
                        spread.offer(other, step);
                    }
                }
            }
        }

        private void countReached() {
            reached = 0;
            for (int number = 0; number < size; number++) {
                reached += spread.isReached(number) ? 1 : 0;
            }
            reachedRests = 0;
            for (int place = 0; place < rests; place++) {
                reachedRests += spread.isReached(restSets[place]) ? 1 : 0;
            }
        }
    }

    /** Which sets were come to, in which wave last, and those of this wave and of the next one. */
    private static final class Spread {
        int start = NONE;
        final int[] lastWave = new int[SETS_MOST];
        int[] wave = new int[SETS_MOST];
        int waveSize;
        int[] nextWave = new int[SETS_MOST];
        int nextSize;

        void begin(int number, int sets) {
            for (int i = 0; i < sets; i++) {
                lastWave[i] = NONE;
            }
            start = number;
            lastWave[number] = 0;
            wave[0] = number;
            waveSize = 1;
            nextSize = 0;
        }

        void offer(int number, int step) {
            if (lastWave[number] != step) {
                lastWave[number] = step;
                nextWave[nextSize] = number;
                nextSize++;
            }
        }

        void goOn() {
            int[] old = wave;
            wave = nextWave;
            waveSize = nextSize;
            nextWave = old;
            nextSize = 0;
        }

        boolean isReached(int number) {
            return lastWave[number] != NONE;
        }
    }

    /**
     * Lanes side by side, and how the stream parts over them. The amounts of a kind are whole
     * numbers of parts of one, with as many parts as the kind needs: 128000 at most.
     */
    private static final class Lanes {
        final int[] a = new int[LANES_MOST];
        final int[] b = new int[LANES_MOST];
        // How much more a lane takes for a level higher by one: 1/B, in quarters.
        final int[] weights = new int[LANES_MOST];
        int size;
        int amountInAll = 12;
        int tenthsLed = 5;
        boolean known;
        final long[][] amounts = new long[KINDS][LANES_MOST];
        final long[] parts = new long[KINDS];
        long evenLevel;
        long evenLevelParts;
        // What pour() works with: the cost of each lane as it lies there, which of them get some,
        // and what it found: their weight, and the level that they come to, times that weight.
        final long[] ground = new long[LANES_MOST];
        final boolean[] open = new boolean[LANES_MOST];
        long openWeight;
        long weighedLevel;

        void add(int laneA, int laneB) {
            a[size] = laneA;
            b[size] = laneB;
            weights[size] = laneB == 1 ? 4 : laneB == 2 ? 2 : 1;
            size++;
            known = false;
        }

        void partAll() {
            if (known || size == 0) {
                return;
            }
            layGround();
            partEven();
            partWise();
            partLeaders();
            partLed();
            known = true;
        }

        private void layGround() {
            for (int lane = 0; lane < size; lane++) {
                ground[lane] = a[lane];
            }
        }

        private void partEven() {
            pour(amounts[EVEN], amountInAll, 4);
            parts[EVEN] = 4 * openWeight;
            evenLevel = weighedLevel;
            evenLevelParts = openWeight;
        }

        // An amount more costs all together A and 2 B times X: wise is what is even by these, and
        // with twice the B a lane takes eighths where it took quarters.
        private void partWise() {
            pour(amounts[WISE], amountInAll, 8);
            parts[WISE] = 8 * openWeight;
        }

        /**
         * Parts an amount over the lanes so that all that get some come from their ground to one
         * level, and no other one lies below it. A lane above the level of all is above the true
         * one too, as that is lower: it is shut, till none is above. The row is told in parts,
         * as many for each part of the ground as scale times the weight of the open lanes.
         */
        private void pour(long[] row, long amount, long scale) {
            for (int lane = 0; lane < size; lane++) {
                open[lane] = true;
            }
            boolean changed = true;
            for (int round = 0; round < size && changed; round++) {
                weighOpen(scale * amount);
                changed = shutAbove();
            }
            for (int lane = 0; lane < size; lane++) {
                long depth = weighedLevel - ground[lane] * openWeight;
                row[lane] = open[lane] ? weights[lane] * depth : 0;
            }
        }

        private void weighOpen(long scaledAmount) {
            openWeight = 0;
            weighedLevel = scaledAmount;
            for (int lane = 0; lane < size; lane++) {
                if (open[lane]) {
                    openWeight += weights[lane];
                    weighedLevel += weights[lane] * ground[lane];
                }
            }
        }

        private boolean shutAbove() {
            boolean any = false;
            for (int lane = 0; lane < size; lane++) {
                if (open[lane] && ground[lane] * openWeight > weighedLevel) {
                    open[lane] = false;
                    any = true;
                }
            }
            return any;
        }

        private void partLeaders() {
            parts[LEADERS] = SHARE_WHOLE * parts[WISE];
            long left = parts[WISE] * tenthsLed * amountInAll;
            for (int lane = 0; lane < size; lane++) {
                open[lane] = true;
            }
            for (int i = 0; i < size; i++) {
                int lane = dearestOpenByWise();
                long some = Math.min(left, SHARE_WHOLE * amounts[WISE][lane]);
                amounts[LEADERS][lane] = some;
                left -= some;
                open[lane] = false;
            }
        }

        private int dearestOpenByWise() {
            int found = 0;
            long most = NONE;
            for (int lane = 0; lane < size; lane++) {
                long cost = a[lane] * parts[WISE] + b[lane] * amounts[WISE][lane];
                if (open[lane] && cost > most) {
                    most = cost;
                    found = lane;
                }
            }
            return found;
        }

        private void partLed() {
            long leaderParts = parts[LEADERS];
            for (int lane = 0; lane < size; lane++) {
                ground[lane] = a[lane] * leaderParts + b[lane] * amounts[LEADERS][lane];
            }
            pour(amounts[LED], parts[WISE] * (SHARE_WHOLE - tenthsLed) * amountInAll, 4);
            parts[LED] = 4 * openWeight * leaderParts;
            for (int lane = 0; lane < size; lane++) {
                amounts[LED][lane] += 4 * openWeight * amounts[LEADERS][lane];
            }
        }

        long thousandths(int kind) {
            long some = parts[kind];
            long sum = 0;
            for (int lane = 0; lane < size; lane++) {
                long amount = amounts[kind][lane];
                sum += amount * (a[lane] * some + b[lane] * amount);
            }
            return some == 0 ? 0 : 1000 * sum / (some * some);
        }
    }
}
