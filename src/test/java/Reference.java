import java.math.BigInteger;
import java.util.ArrayList;
import java.util.Arrays;
import java.util.Collections;
import java.util.HashMap;
import java.util.List;
import java.util.Map;
import java.util.regex.Matcher;
import java.util.regex.Pattern;

/**
 * The document's words once more, each by its definition and by other means than the class has:
 * texts by a pattern, ways by sorting, rest by pays instead of the potential, reach by memory,
 * lanes by trying every choice of lanes with fractions of any size.
 */
public final class Reference {
    static final int NONE = -1, UNKNOWN = -101, OUTSIDE = -102, STATE = -103, FULL = -104;

    private static final Pattern NET = netPattern();

    private record Road(int from, int to, int a, int b, int t) { }

    private record Traveller(int from, int to, List<List<Integer>> ways) { }

    private record Frac(BigInteger above, BigInteger below) {
        static Frac of(long above, long below) {
            return of(BigInteger.valueOf(above), BigInteger.valueOf(below));
        }

        static Frac of(BigInteger above, BigInteger below) {
            BigInteger g = above.gcd(below);
            return below.signum() < 0
                    ? new Frac(above.divide(g).negate(), below.divide(g).negate())
                    : new Frac(above.divide(g), below.divide(g));
        }

        Frac plus(Frac o) {
            return of(above.multiply(o.below).add(o.above.multiply(below)), below.multiply(o.below));
        }

        Frac minus(Frac o) {
            return plus(new Frac(o.above.negate(), o.below));
        }

        Frac times(Frac o) {
            return of(above.multiply(o.above), below.multiply(o.below));
        }

        Frac by(Frac o) {
            return of(above.multiply(o.below), below.multiply(o.above));
        }

        int compare(Frac o) {
            return above.multiply(o.below).compareTo(o.above.multiply(below));
        }

        int part(int what) {
            return (what == 0 ? above : below).intValueExact();
        }
    }

    private static final Frac ZERO = Frac.of(0, 1);

    private String page = "";
    private int nodes = 0;
    private final List<Road> roads = new ArrayList<>();
    private int mode = 0;
    private final List<Traveller> players = new ArrayList<>();
    private int[] set = new int[0];
    private final List<int[]> lanes = new ArrayList<>();
    private int d = 12;
    private int s = 5;
    private int nets = 0;
    private int came = 0;
    private int turns = 0;

    private static Pattern netPattern() {
        StringBuilder all = new StringBuilder();
        for (int n = 2; n <= 6; n++) {
            StringBuilder pairs = new StringBuilder();
            for (int from = 0; from < n; from++) {
                for (int to = 0; to < n; to++) {
                    if (from != to) {
                        pairs.append(pairs.length() > 0 ? "|" : "").append(from).append('>').append(to);
                    }
                }
            }
            all.append(n > 2 ? "|" : "").append(n)
                    .append("(?:;(?:").append(pairs).append("):(?:1?[0-9]|20)\\+[0-9]){1,10}");
        }
        // No 0 ahead: "1?[0-9]" has none.
        return Pattern.compile(all.toString());
    }

    public int letter(int code) {
        if (code < 32 || code > 126) {
            return OUTSIDE;
        }
        if (page.length() == 92) {
            return FULL;
        }
        page += (char) code;
        return page.length();
    }

    public int blank() {
        int had = page.length();
        page = "";
        return had;
    }

    public int fault() {
        for (int n = 1; n <= page.length(); n++) {
            Matcher m = NET.matcher(page.substring(0, n));
            if (!m.matches() && !m.hitEnd()) {
                return n - 1;
            }
        }
        return page.length();
    }

    public int net() {
        if (!NET.matcher(page).matches()) {
            return STATE;
        }
        String[] parts = page.split(";");
        nodes = Integer.parseInt(parts[0]);
        roads.clear();
        for (int i = 1; i < parts.length; i++) {
            String[] n = parts[i].split("[>:+]");
            roads.add(new Road(Integer.parseInt(n[0]), Integer.parseInt(n[1]),
                    Integer.parseInt(n[2]), Integer.parseInt(n[3]), 0));
        }
        players.clear();
        set = new int[0];
        page = "";
        nets++;
        return roads.size();
    }

    private int load(int[] ways, int road) {
        int k = 0;
        for (int p = 0; p < ways.length; p++) {
            k += players.get(p).ways.get(ways[p]).contains(road) ? 1 : 0;
        }
        return k;
    }

    private int toPay(int road, int k) {
        Road r = roads.get(road);
        return r.a + r.b * k + (mode == 1 ? r.t : 0) + (mode == 2 ? r.b * (k - 1) : 0);
    }

    private int paid(int[] ways, int player, int way) {
        int[] then = ways.clone();
        then[player] = way;
        int sum = 0;
        for (int road : players.get(player).ways.get(way)) {
            sum += toPay(road, load(then, road));
        }
        return sum;
    }

    private int social(int[] ways) {
        int sum = 0;
        for (int p = 0; p < ways.length; p++) {
            for (int road : players.get(p).ways.get(ways[p])) {
                sum += roads.get(road).a + roads.get(road).b * load(ways, road);
            }
        }
        return sum;
    }

    private int potential(int[] ways) {
        int sum = 0;
        for (int road = 0; road < roads.size(); road++) {
            for (int k = 1; k <= load(ways, road); k++) {
                sum += toPay(road, k);
            }
        }
        return sum;
    }

    private int bestWay(int[] ways, int player) {
        int least = Integer.MAX_VALUE;
        int first = NONE;
        for (int w = 0; w < players.get(player).ways.size(); w++) {
            if (paid(ways, player, w) < least) {
                least = paid(ways, player, w);
                first = w;
            }
        }
        return paid(ways, player, ways[player]) == least ? ways[player] : first;
    }

    private boolean atRest(int[] ways) {
        for (int p = 0; p < ways.length; p++) {
            if (bestWay(ways, p) != ways[p]) {
                return false;
            }
        }
        return true;
    }

    private int sets() {
        int product = 1;
        for (Traveller t : players) {
            product *= t.ways.size();
        }
        return product;
    }

    public int about(int what) {
        if (what < 0 || what > 7) {
            return OUTSIDE;
        }
        if (nodes == 0) {
            return STATE;
        }
        int most = 0;
        for (int road = 0; road < roads.size(); road++) {
            most = Math.max(most, load(set, road));
        }
        return new int[] {nodes, roads.size(), mode, social(set), potential(set),
            atRest(set) ? 1 : 0, sets(), most}[what];
    }

    public int road(int road, int what) {
        if (road < 0 || road >= roads.size()) {
            return UNKNOWN;
        }
        if (what < 0 || what > 7) {
            return OUTSIDE;
        }
        Road r = roads.get(road);
        int k = load(set, road);
        return new int[] {r.from, r.to, r.a, r.b, r.t, k, k == 0 ? NONE : toPay(road, k),
            toPay(road, k + 1)}[what];
    }

    public int put(int road, int what, int v) {
        if (road < 0 || road >= roads.size()) {
            return UNKNOWN;
        }
        if (what < 0 || what > 2 || v < 0 || v > new int[] {20, 9, 40}[what]) {
            return OUTSIDE;
        }
        Road r = roads.get(road);
        roads.set(road, new Road(r.from, r.to, what == 0 ? v : r.a, what == 1 ? v : r.b,
                what == 2 ? v : r.t));
        return new int[] {r.a, r.b, r.t}[what];
    }

    public int mode(int m) {
        if (m < 0 || m > 2) {
            return OUTSIDE;
        }
        int was = mode;
        mode = m;
        return was;
    }

    private void collect(List<Integer> path, List<Integer> been, int to, List<List<Integer>> out) {
        int at = been.get(been.size() - 1);
        if (at == to) {
            out.add(new ArrayList<>(path));
            return;
        }
        for (int road = roads.size() - 1; road >= 0; road--) {
            Road r = roads.get(road);
            if (r.from == at && !been.contains(r.to)) {
                path.add(road);
                been.add(r.to);
                collect(path, been, to, out);
                been.remove(been.size() - 1);
                path.remove(path.size() - 1);
            }
        }
    }

    private static int compareWays(List<Integer> one, List<Integer> other) {
        if (one.size() != other.size()) {
            return Integer.compare(one.size(), other.size());
        }
        for (int i = 0; i < one.size(); i++) {
            if (!one.get(i).equals(other.get(i))) {
                return Integer.compare(one.get(i), other.get(i));
            }
        }
        return 0;
    }

    public int player(int from, int to) {
        if (nodes == 0) {
            return STATE;
        }
        if (from < 0 || from >= nodes || to < 0 || to >= nodes || from == to) {
            return UNKNOWN;
        }
        if (players.size() == 5) {
            return FULL;
        }
        List<List<Integer>> ways = new ArrayList<>();
        collect(new ArrayList<>(), new ArrayList<>(List.of(from)), to, ways);
        if (ways.isEmpty() || ways.size() > 12) {
            return STATE;
        }
        Collections.sort(ways, Reference::compareWays);
        players.add(new Traveller(from, to, ways));
        set = Arrays.copyOf(set, set.length + 1);
        int least = Integer.MAX_VALUE;
        int first = 0;
        for (int w = ways.size() - 1; w >= 0; w--) {
            if (paid(set, set.length - 1, w) <= least) {
                least = paid(set, set.length - 1, w);
                first = w;
            }
        }
        set[set.length - 1] = first;
        came++;
        return players.size() - 1;
    }

    public int drop() {
        if (players.isEmpty()) {
            return STATE;
        }
        players.remove(players.size() - 1);
        set = Arrays.copyOf(set, set.length - 1);
        return players.size();
    }

    private boolean isPlayer(int p) {
        return p >= 0 && p < players.size();
    }

    private boolean isWay(int p, int w) {
        return isPlayer(p) && w >= 0 && w < players.get(p).ways.size();
    }

    public int who(int p, int what) {
        if (!isPlayer(p)) {
            return UNKNOWN;
        }
        if (what < 0 || what > 6) {
            return OUTSIDE;
        }
        Traveller t = players.get(p);
        int best = bestWay(set, p);
        return new int[] {t.from, t.to, t.ways.size(), set[p], paid(set, p, set[p]), best,
            paid(set, p, best)}[what];
    }

    public int way(int p, int w, int place) {
        if (!isWay(p, w) || place < 0 || place >= players.get(p).ways.get(w).size()) {
            return UNKNOWN;
        }
        return players.get(p).ways.get(w).get(place);
    }

    public int pay(int p, int w) {
        return isWay(p, w) ? paid(set, p, w) : UNKNOWN;
    }

    public int set(int p, int w) {
        if (!isWay(p, w)) {
            return UNKNOWN;
        }
        int had = set[p];
        set[p] = w;
        return had;
    }

    /** A turn in this set of all but one: who it was. */
    private int turnIn(int[] ways, int staying) {
        for (int p = 0; p < ways.length; p++) {
            int best = bestWay(ways, p);
            if (p != staying && best != ways[p]) {
                ways[p] = best;
                return p;
            }
        }
        return NONE;
    }

    public int turn() {
        if (nodes == 0) {
            return STATE;
        }
        int p = turnIn(set, NONE);
        turns += p == NONE ? 0 : 1;
        return p;
    }

    public int run(int n) {
        if (n < 1 || n > 60) {
            return OUTSIDE;
        }
        if (nodes == 0) {
            return STATE;
        }
        int done = 0;
        while (done < n && turn() != NONE) {
            done++;
        }
        return done;
    }

    private boolean refusesAllSets() {
        return players.isEmpty() || sets() > 500;
    }

    private List<int[]> allSets() {
        List<int[]> all = new ArrayList<>();
        all.add(new int[0]);
        for (Traveller t : players) {
            List<int[]> more = new ArrayList<>();
            for (int[] ahead : all) {
                for (int w = 0; w < t.ways.size(); w++) {
                    int[] longer = Arrays.copyOf(ahead, ahead.length + 1);
                    longer[ahead.length] = w;
                    more.add(longer);
                }
            }
            all = more;
        }
        return all;
    }

    private List<int[]> restSets() {
        List<int[]> rest = new ArrayList<>();
        for (int[] one : allSets()) {
            if (atRest(one)) {
                rest.add(one);
            }
        }
        return rest;
    }

    public int rests(int what) {
        if (what < 0 || what > 5) {
            return OUTSIDE;
        }
        if (refusesAllSets()) {
            return STATE;
        }
        List<int[]> all = allSets();
        List<int[]> rest = restSets();
        int least = all.stream().mapToInt(this::social).min().orElseThrow();
        switch (what) {
            case 0: return rest.size();
            case 1: return rest.stream().mapToInt(this::social).min().orElseThrow();
            case 2: return rest.stream().mapToInt(this::social).max().orElseThrow();
            case 3: return least;
            case 4: return all.stream().mapToInt(this::potential).min().orElseThrow();
            default: return (int) all.stream().filter(one -> social(one) == least).count();
        }
    }

    public int rest(int place, int p) {
        if (refusesAllSets()) {
            return STATE;
        }
        List<int[]> rest = restSets();
        return place < 0 || place >= rest.size() || !isPlayer(p) ? UNKNOWN : rest.get(place)[p];
    }

    public int go(int place) {
        if (refusesAllSets()) {
            return STATE;
        }
        List<int[]> rest = restSets();
        if (place < 0 || place >= rest.size()) {
            return UNKNOWN;
        }
        set = rest.get(place);
        return social(set);
    }

    public int best() {
        if (refusesAllSets()) {
            return STATE;
        }
        int least = rests(3);
        set = allSets().stream().filter(one -> social(one) == least).findFirst().orElseThrow();
        return least;
    }

    public int price(int what) {
        if (what < 0 || what > 3) {
            return OUTSIDE;
        }
        if (refusesAllSets()) {
            return STATE;
        }
        int above = rests(what < 2 ? 2 : 1);
        int below = rests(3);
        if (below == 0) {
            return what % 2 == 0 || above == 0 ? 1 : 0;
        }
        return Frac.of(above, below).part(what % 2);
    }

    private int longestFrom(int[] ways, Map<String, Integer> known) {
        String key = Arrays.toString(ways);
        if (known.containsKey(key)) {
            return known.get(key);
        }
        int longest = 0;
        for (int p = 0; p < ways.length; p++) {
            for (int w = 0; w < players.get(p).ways.size(); w++) {
                if (paid(ways, p, w) < paid(ways, p, ways[p])) {
                    int[] then = ways.clone();
                    then[p] = w;
                    longest = Math.max(longest, 1 + longestFrom(then, known));
                }
            }
        }
        known.put(key, longest);
        return longest;
    }

    public int reach(int what) {
        if (what < 0 || what > 2) {
            return OUTSIDE;
        }
        if (refusesAllSets()) {
            return STATE;
        }
        Map<String, Integer> known = new HashMap<>();
        int longest = longestFrom(set, known);
        return what == 0 ? known.size()
                : what == 1 ? (int) known.values().stream().filter(n -> n == 0).count() : longest;
    }

    private int[] settled(int p, int w) {
        int[] then = set.clone();
        then[p] = w;
        while (turnIn(then, p) != NONE) {
            continue;
        }
        return then;
    }

    public int lead(int p, int w) {
        return isWay(p, w) ? paid(settled(p, w), p, w) : UNKNOWN;
    }

    public int leads(int p) {
        if (!isPlayer(p)) {
            return UNKNOWN;
        }
        int first = 0;
        for (int w = 0; w < players.get(p).ways.size(); w++) {
            first = lead(p, w) < lead(p, first) ? w : first;
        }
        return first;
    }

    public int follow(int p) {
        if (!isPlayer(p)) {
            return UNKNOWN;
        }
        set = settled(p, leads(p));
        return paid(set, p, set[p]);
    }

    public int lane(int a, int b) {
        if (a < 0 || a > 20 || !List.of(1, 2, 4).contains(b)) {
            return OUTSIDE;
        }
        if (lanes.size() == 5) {
            return FULL;
        }
        lanes.add(new int[] {a, b});
        return lanes.size() - 1;
    }

    public int clear() {
        int had = lanes.size();
        lanes.clear();
        return had;
    }

    public int stream(int to) {
        if (to < 1 || to > 40) {
            return OUTSIDE;
        }
        int was = d;
        d = to;
        return was;
    }

    public int share(int to) {
        if (to < 0 || to > 10) {
            return OUTSIDE;
        }
        int was = s;
        s = to;
        return was;
    }

    /** Tries each choice of lanes that get some: the one by which all is as it must be. */
    private Frac[] evenOver(Frac[] ground, Frac[] slope, Frac amount) {
        int n = ground.length;
        if (amount.compare(ZERO) == 0) {
            Frac[] nothing = new Frac[n];
            Arrays.fill(nothing, ZERO);
            return nothing;
        }
        for (int choice = 1; choice < 1 << n; choice++) {
            Frac sum = amount;
            Frac per = ZERO;
            for (int i = 0; i < n; i++) {
                if ((choice >> i & 1) == 1) {
                    sum = sum.plus(ground[i].by(slope[i]));
                    per = per.plus(Frac.of(1, 1).by(slope[i]));
                }
            }
            Frac level = sum.by(per);
            Frac[] found = new Frac[n];
            boolean good = true;
            for (int i = 0; i < n; i++) {
                boolean in = (choice >> i & 1) == 1;
                found[i] = in ? level.minus(ground[i]).by(slope[i]) : ZERO;
                good &= in ? found[i].compare(ZERO) > 0 : ground[i].compare(level) >= 0;
            }
            if (good) {
                return found;
            }
        }
        throw new IllegalStateException("no choice of lanes is even");
    }

    private Frac[] slopes(int times) {
        return lanes.stream().map(l -> Frac.of((long) times * l[1], 1)).toArray(Frac[]::new);
    }

    private Frac cost(int lane, Frac x) {
        return Frac.of(lanes.get(lane)[0], 1).plus(Frac.of(lanes.get(lane)[1], 1).times(x));
    }

    private Frac[] grounds() {
        return lanes.stream().map(l -> Frac.of(l[0], 1)).toArray(Frac[]::new);
    }

    private Frac[] leadersAmounts() {
        Frac[] wise = amounts(1);
        Integer[] order = new Integer[wise.length];
        Arrays.setAll(order, i -> i);
        Arrays.sort(order, (i, j) -> cost(j, wise[j]).compare(cost(i, wise[i])));
        Frac left = Frac.of((long) s * d, 10);
        Frac[] found = new Frac[wise.length];
        for (int i : order) {
            found[i] = wise[i].compare(left) < 0 ? wise[i] : left;
            left = left.minus(found[i]);
        }
        return found;
    }

    private Frac[] amounts(int kind) {
        if (kind == 0) {
            return evenOver(grounds(), slopes(1), Frac.of(d, 1));
        }
        if (kind == 1) {
            return evenOver(grounds(), slopes(2), Frac.of(d, 1));
        }
        Frac[] leaders = leadersAmounts();
        if (kind == 3) {
            return leaders;
        }
        Frac[] ground = new Frac[leaders.length];
        Arrays.setAll(ground, i -> cost(i, leaders[i]));
        Frac[] rest = evenOver(ground, slopes(1), Frac.of((10L - s) * d, 10));
        Arrays.setAll(rest, i -> rest[i].plus(leaders[i]));
        return rest;
    }

    public int flow(int kind, int lane, int what) {
        if (lane < 0 || lane >= lanes.size()) {
            return UNKNOWN;
        }
        if (kind < 0 || kind > 3 || what < 0 || what > 1) {
            return OUTSIDE;
        }
        return amounts(kind)[lane].part(what);
    }

    public int level(int what) {
        if (what < 0 || what > 1) {
            return OUTSIDE;
        }
        if (lanes.isEmpty()) {
            return STATE;
        }
        Frac[] even = amounts(0);
        for (int i = 0; i < even.length; i++) {
            if (even[i].compare(ZERO) > 0) {
                return cost(i, even[i]).part(what);
            }
        }
        throw new IllegalStateException("no lane has some");
    }

    public int total(int kind) {
        if (kind < 0 || kind > 2) {
            return OUTSIDE;
        }
        if (lanes.isEmpty()) {
            return STATE;
        }
        Frac[] found = amounts(kind);
        Frac sum = ZERO;
        for (int i = 0; i < found.length; i++) {
            sum = sum.plus(found[i].times(cost(i, found[i])));
        }
        return sum.above.multiply(BigInteger.valueOf(1000)).divide(sum.below).intValueExact();
    }

    public int worse(int kind) {
        if (kind < 0 || kind > 2) {
            return OUTSIDE;
        }
        if (lanes.isEmpty()) {
            return STATE;
        }
        return (int) (10000L * total(kind) / total(1));
    }

    public int count(int what) {
        return what < 0 || what > 6 ? OUTSIDE : new int[] {roads.size(), players.size(),
            lanes.size(), page.length(), nets, came, turns}[what];
    }

    public long digest() {
        List<Integer> told = new ArrayList<>();
        for (int i = 0; nodes > 0 && i < 8; i++) {
            told.add(about(i));
        }
        for (int r = 0; r < roads.size(); r++) {
            for (int i = 0; i < 8; i++) {
                told.add(road(r, i));
            }
        }
        for (int p = 0; p < players.size(); p++) {
            for (int i = 0; i < 7; i++) {
                told.add(who(p, i));
            }
            for (int w = 0; w < who(p, 2); w++) {
                told.add(pay(p, w));
            }
            told.addAll(players.get(p).ways.get(set[p]));
        }
        for (int i = 0; !refusesAllSets() && i < 13; i++) {
            told.add(i < 6 ? rests(i) : i < 10 ? price(i - 6) : reach(i - 10));
        }
        for (int p = 0; p < players.size(); p++) {
            for (int w = 0; w < who(p, 2); w++) {
                told.add(lead(p, w));
            }
        }
        for (int i = 0; i < lanes.size() * 8; i++) {
            told.add(flow(i / 2 % 4, i / 8, i % 2));
        }
        for (int i = 0; !lanes.isEmpty() && i < 5; i++) {
            told.add(i < 2 ? level(i) : total(i - 2));
        }
        page.chars().forEach(told::add);
        for (int i = 0; i < 7; i++) {
            told.add(count(i));
        }
        long h = 1543;
        for (int number : told) {
            h = 31 * h + number;
        }
        return h;
    }
}
