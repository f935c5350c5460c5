import java.lang.management.ManagementFactory;
import java.lang.reflect.Array;
import java.lang.reflect.Field;
import java.lang.reflect.Modifier;
import java.util.ArrayDeque;
import java.util.Collections;
import java.util.Deque;
import java.util.IdentityHashMap;
import java.util.Set;

/** What an object makes, it makes when it is made, and its calls make nothing: all fits into the room. */
public final class RoomTest {
    private static final int CALLS = 512;
    // The room in which all calls of one run live.
    private static final int ROOM_OBJECTS = 600_000;
    private static final int ROOM_ELEMENTS = 7_300_000;
    // What is measured may have something of the machine's own in it, but not each time; with many
    // rounds the machine would learn to do without what a call makes.
    private static final int ROUNDS = 5;
    private static final String NET = "3;0>1:1+2;0>1:4+0;1>2:3+1;1>2:0+2;0>2:5+1";

    private int objects = 0;
    private int elements = 0;

    public static void main(String[] args) throws IllegalAccessException {
        Check check = new Check();
        RoomTest test = new RoomTest();
        SelfishWays x = new SelfishWays();
        test.count(x);
        System.out.println("an object is " + test.objects + " objects and arrays with "
                + test.elements + " fields and elements");
        check.holds("an object for each call of a run has room", CALLS * test.objects <= ROOM_OBJECTS
                && CALLS * test.elements <= ROOM_ELEMENTS);
        check.due("bytes made by calls", leastMade(), 0);
        callAll(x);
        RoomTest behind = new RoomTest();
        behind.count(x);
        check.due("objects behind all calls", behind.objects, test.objects);
        check.due("fields and elements behind all calls", behind.elements, test.elements);
        check.end();
    }

    private void count(Object first) throws IllegalAccessException {
        Set<Object> seen = Collections.newSetFromMap(new IdentityHashMap<>());
        Deque<Object> open = new ArrayDeque<>();
        open.add(first);
        seen.add(first);
        while (!open.isEmpty()) {
            Object one = open.remove();
            objects++;
            if (one.getClass().isArray()) {
                elements += Array.getLength(one);
                for (int i = 0; one instanceof Object[] row && i < row.length; i++) {
                    meet(row[i], seen, open);
                }
            } else {
                meetFields(one, seen, open);
            }
        }
    }

    private void meetFields(Object one, Set<Object> seen, Deque<Object> open)
            throws IllegalAccessException {
        for (Field f : one.getClass().getDeclaredFields()) {
            if (!Modifier.isStatic(f.getModifiers())) {
                elements++;
                f.setAccessible(true);
                if (!f.getType().isPrimitive()) {
                    meet(f.get(one), seen, open);
                }
            }
        }
    }

    private static void meet(Object other, Set<Object> seen, Deque<Object> open) {
        if (other != null && seen.add(other)) {
            open.add(other);
        }
    }

    private static long leastMade() {
        com.sun.management.ThreadMXBean bean =
                (com.sun.management.ThreadMXBean) ManagementFactory.getThreadMXBean();
        long self = Thread.currentThread().getId();
        long least = Long.MAX_VALUE;
        for (int round = 0; round < ROUNDS; round++) {
            SelfishWays x = new SelfishWays();
            long before = bean.getThreadAllocatedBytes(self);
            callAll(x);
            least = Math.min(least, bean.getThreadAllocatedBytes(self) - before);
        }
        return least;
    }

    /** Every call, some of them refused; 512 at most. This must make nothing itself. */
    private static void callAll(SelfishWays x) {
        for (int i = 0; i < NET.length(); i++) {
            x.letter(NET.charAt(i));
        }
        x.letter(';');
        x.fault();
        x.net();
        x.blank();
        for (int i = 0; i < NET.length(); i++) {
            x.letter(NET.charAt(i));
        }
        x.net();
        for (int i = 0; i < 4; i++) {
            x.player(0, 2 - i % 2);
        }
        x.player(2, 0);
        for (int mode = 0; mode <= 2; mode++) {
            x.mode(mode);
            x.put(mode, 2, 7);
            callPlayers(x);
            callSets(x);
        }
        callLanes(x);
        x.letter('2');
        x.digest();
        x.drop();
        x.count(6);
        x.digest();
    }

    private static void callPlayers(SelfishWays x) {
        for (int what = -1; what <= 8; what++) {
            x.about(what);
            x.road(0, what);
            x.who(0, what);
        }
        x.set(0, 4);
        x.way(0, 4, 1);
        x.pay(0, 4);
        x.turn();
        x.set(1, 1);
        x.run(60);
        x.set(0, 4);
    }

    private static void callSets(SelfishWays x) {
        for (int what = -1; what <= 6; what++) {
            x.rests(what);
            x.price(what);
            x.reach(what);
        }
        x.rest(0, 0);
        x.go(0);
        x.best();
        x.lead(0, 1);
        x.leads(1);
        x.follow(2);
    }

    private static void callLanes(SelfishWays x) {
        x.lane(3, 1);
        x.lane(0, 4);
        x.clear();
        for (int lane = 0; lane < 6; lane++) {
            x.lane(4 * lane, 1 << lane % 3);
        }
        x.stream(40);
        x.share(7);
        for (int kind = -1; kind <= 4; kind++) {
            x.flow(kind, 4, 0);
            x.flow(kind, 5, 1);
            x.level(kind);
            x.total(kind);
            x.worse(kind);
        }
    }
}
