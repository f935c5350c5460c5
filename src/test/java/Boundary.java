import java.util.ArrayList;
import java.util.HashSet;
import java.util.List;
import java.util.Set;
import java.util.function.IntUnaryOperator;
import java.util.function.Supplier;
import java.util.function.ToLongFunction;

/**
 * What the tests of the boundaries share. Each test names the promise and the words of the document
 * that it holds; what is not as due is told with these.
 */
abstract class Boundary {
    static final int NONE = -1, UNKNOWN = -101, OUTSIDE = -102, STATE = -103, FULL = -104;
    /** Numbers that are far outside of everything. */
    static final int[] FAR = {Integer.MIN_VALUE, Integer.MIN_VALUE + 1, -1000, 1000, Integer.MAX_VALUE};
    /** One road costs how many are on it, the other one 4. */
    static final String TWO_ROADS = "2;0>1:0+1;0>1:4+0";
    /** From 0 to 3 by 0 1, by 2 3 and by 0 4 3. */
    static final String BRAESS = "4;0>1:0+4;1>3:20+0;0>2:20+0;2>3:0+4;1>2:1+0";

    private final Check check = new Check();
    private final Document document = new Document();
    private final Set<Integer> named = new HashSet<>();
    private String sentence = "";

    /** What is asked for from here on holds these words of this promise. */
    final void promise(int number, String words) {
        sentence = "promise " + number + ", \"" + words + "\": ";
        named.add(number);
        check.holds(sentence + "the document says so", document.says(number, words));
    }

    /**
     * Runs the tests, which name at least the promises from the first to the last one; where the
     * class throws, that is told with the words that it broke.
     */
    final void hold(int first, int last, Runnable... tests) {
        for (Runnable test : tests) {
            try {
                test.run();
            } catch (RuntimeException | StackOverflowError e) {
                check.holds(sentence + "no call throws, but one threw " + e, false);
            }
        }
        for (int number = first; number <= last; number++) {
            check.holds("a test names promise " + number, named.contains(number));
        }
        check.end();
    }

    final void due(String call, long got, long want) {
        check.due(sentence + call, got, want);
    }

    /** What a call tells for 0, 1 and so on. */
    final void dueRow(String call, IntUnaryOperator asked, int... want) {
        for (int i = 0; i < want.length; i++) {
            due(call + " for " + i, asked.applyAsInt(i), want[i]);
        }
    }

    /** The call is refused so, and the object is then like one on which it was not called. */
    final void refused(String call, Supplier<SelfishWays> made, ToLongFunction<SelfishWays> asked,
            int want) {
        SelfishWays x = made.get();
        due(call, asked.applyAsLong(x), want);
        dueAlike(call + " refused", x, made.get());
    }

    /** The call answers so, and the object is then like one on which it was not called. */
    final void tellsOnly(String call, Supplier<SelfishWays> made, ToLongFunction<SelfishWays> asked,
            long want) {
        SelfishWays x = made.get();
        due(call, asked.applyAsLong(x), want);
        dueAlike(call + " behind it", x, made.get());
    }

    /** All that can be seen of one object can be seen of the other one; both are spent then. */
    final void dueAlike(String when, SelfishWays one, SelfishWays other) {
        List<Long> seen = look(one);
        List<Long> want = look(other);
        due(when + ": how much can be seen", seen.size(), want.size());
        for (int i = 0; i < Math.min(seen.size(), want.size()); i++) {
            due(when + ": what is seen at " + i, seen.get(i), want.get(i));
        }
    }

    private static List<Long> look(SelfishWays x) {
        List<Long> seen = new ArrayList<>();
        see(seen, 7, x::count);
        see(seen, 8, x::about);
        for (int i = 0; i < x.count(0); i++) {
            int road = i;
            see(seen, 8, what -> x.road(road, what));
        }
        for (int i = 0; i < x.count(1); i++) {
            int player = i;
            see(seen, 7, what -> x.who(player, what));
            see(seen, x.who(player, 2), way -> x.pay(player, way));
        }
        see(seen, 6, x::rests);
        see(seen, 3, x::reach);
        for (int i = 0; i < x.count(2); i++) {
            int lane = i;
            see(seen, 8, n -> x.flow(n / 2, lane, n % 2));
        }
        see(seen, 3, x::total);
        seen.add((long) x.fault());
        seen.add(x.digest());
        seen.add((long) x.mode(0));
        seen.add((long) x.stream(12));
        seen.add((long) x.share(5));
        return seen;
    }

    private static void see(List<Long> seen, int size, IntUnaryOperator asked) {
        for (int i = 0; i < size; i++) {
            seen.add((long) asked.applyAsInt(i));
        }
    }

    final void dueSet(String call, SelfishWays x, int... ways) {
        for (int i = 0; i < ways.length; i++) {
            due(call + ", then who(" + i + ", 3)", x.who(i, 3), ways[i]);
        }
    }

    final void dueFlow(SelfishWays x, int kind, int lane, int above, int below) {
        due("flow(" + kind + ", " + lane + ", 0)", x.flow(kind, lane, 0), above);
        due("flow(" + kind + ", " + lane + ", 1)", x.flow(kind, lane, 1), below);
    }

    static void type(SelfishWays x, String text) {
        for (int i = 0; i < text.length(); i++) {
            x.letter(text.charAt(i));
        }
    }

    static SelfishWays page(String text) {
        SelfishWays x = new SelfishWays();
        type(x, text);
        return x;
    }

    static SelfishWays on(String text) {
        SelfishWays x = page(text);
        x.net();
        return x;
    }

    /** A net with so many players from one node to another one. */
    static SelfishWays on(String text, int players, int from, int to) {
        SelfishWays x = on(text);
        come(x, players, from, to);
        return x;
    }

    static void come(SelfishWays x, int players, int from, int to) {
        for (int i = 0; i < players; i++) {
            x.player(from, to);
        }
    }

    static void take(SelfishWays x, int... ways) {
        for (int i = 0; i < ways.length; i++) {
            x.set(i, ways[i]);
        }
    }

    /** TWO_ROADS with four players, who take these. */
    static SelfishWays four(int... ways) {
        SelfishWays x = on(TWO_ROADS, 4, 0, 1);
        take(x, ways);
        return x;
    }

    /** Something of everything: letters, a net with tolls and players not at rest, lanes. */
    static SelfishWays furnished() {
        SelfishWays x = on(BRAESS, 2, 0, 3);
        x.player(1, 3);
        x.put(4, 2, 7);
        x.put(1, 2, 3);
        x.mode(1);
        take(x, 1, 0, 1);
        x.lane(3, 2);
        x.lane(0, 4);
        x.lane(20, 1);
        x.stream(17);
        x.share(3);
        type(x, "3;1");
        return x;
    }

    static SelfishWays lanes(int stream, int share, int... asAndBs) {
        SelfishWays x = new SelfishWays();
        for (int i = 0; i + 1 < asAndBs.length; i += 2) {
            x.lane(asAndBs[i], asAndBs[i + 1]);
        }
        x.stream(stream);
        x.share(share);
        return x;
    }
}
