import java.lang.reflect.Method;
import java.util.Arrays;
import java.util.Random;

/** Runs of calls, drawn with fixed seeds, on the class and on the reference: the answers are the same. */
public final class RandomRunsTest {
    private static final int RUNS = 1500;
    private static final int CALLS = 512;
    private static final String[] NAMES = {"letter", "blank", "fault", "net", "about", "road", "put",
        "mode", "player", "drop", "who", "way", "pay", "set", "turn", "run", "rests", "rest", "go",
        "best", "price", "reach", "lead", "leads", "follow", "lane", "clear", "stream", "share",
        "flow", "level", "total", "worse", "count", "digest"};
    // The greatest useful argument at each place; one more, and -1, are drawn too.
    private static final int[][] MOST = {{126}, {}, {}, {}, {7}, {9, 7}, {9, 2, 40}, {2}, {5, 5}, {},
        {4, 6}, {4, 11, 4}, {4, 11}, {4, 11}, {}, {60}, {5}, {12, 4}, {12}, {}, {3}, {2}, {4, 11},
        {4}, {4}, {20, 4}, {}, {40}, {10}, {3, 4, 1}, {1}, {2}, {2}, {6}, {}};
    // How often a call is drawn; what takes things away is rare.
    private static final int[] OFTEN = {2, 1, 3, 2, 10, 10, 6, 3, 10, 2, 12, 8, 8, 12, 8, 3, 6, 6, 3,
        2, 6, 6, 8, 4, 3, 5, 1, 3, 3, 16, 4, 6, 4, 6, 1};

    private final Random random;
    private final SelfishWays real = new SelfishWays();
    private final Reference reference = new Reference();
    private final Check check;
    private final int run;
    private int calls = 0;

    private RandomRunsTest(int run, Check check) {
        this.run = run;
        this.check = check;
        random = new Random(run);
    }

    private void call(int which, int... args) throws ReflectiveOperationException {
        Class<?>[] types = new Class<?>[args.length];
        Arrays.fill(types, int.class);
        Object[] values = Arrays.stream(args).boxed().toArray();
        Method one = SelfishWays.class.getMethod(NAMES[which], types);
        Method other = Reference.class.getMethod(NAMES[which], types);
        String name = "run " + run + ", call " + calls + ": " + NAMES[which] + Arrays.toString(args);
        long got = ((Number) one.invoke(real, values)).longValue();
        check.due(name, got, ((Number) other.invoke(reference, values)).longValue());
        calls++;
    }

    private void type(String text) throws ReflectiveOperationException {
        for (int i = 0; i < text.length(); i++) {
            call(0, text.charAt(i));
        }
    }

    private String netText() {
        int nodes = 2 + random.nextInt(5);
        int roads = 1 + random.nextInt(10);
        StringBuilder text = new StringBuilder().append(nodes);
        int mostA = random.nextInt(4) == 0 ? 0 : 20;
        int mostB = random.nextInt(4) == 0 ? 0 : 9;
        for (int i = 0; i < roads; i++) {
            int from = random.nextInt(nodes);
            int to = (from + 1 + random.nextInt(nodes - 1)) % nodes;
            if (random.nextInt(3) > 0 && from > to) {
                int swap = from;
                from = to;
                to = swap;
            }
            text.append(';').append(from).append('>').append(to).append(':')
                    .append(random.nextInt(mostA + 1)).append('+').append(random.nextInt(mostB + 1));
        }
        if (random.nextInt(5) == 0) {
            text.setCharAt(random.nextInt(text.length()), "0123456789;>:+ ".charAt(random.nextInt(15)));
        }
        if (random.nextInt(8) == 0) {
            text.append(";0>1:0+0");
        }
        return text.toString();
    }

    private int draw(int most) {
        int r = random.nextInt(40);
        if (r == 0) {
            return -1;
        }
        if (r == 1) {
            return most + 1;
        }
        if (r == 2) {
            return random.nextInt();
        }
        return random.nextInt(most + 1);
    }

    private void readNet() throws ReflectiveOperationException {
        call(1);
        type(netText());
        call(2);
        call(3);
        for (int i = 0; i < 1 + random.nextInt(8); i++) {
            call(8, random.nextInt(6), random.nextInt(6));
        }
    }

    private int drawCall() {
        int left = random.nextInt(Arrays.stream(OFTEN).sum());
        int which = 0;
        while (left >= OFTEN[which]) {
            left -= OFTEN[which];
            which++;
        }
        return which;
    }

    private void go() throws ReflectiveOperationException {
        if (random.nextInt(5) > 0) {
            readNet();
        }
        while (calls < CALLS - 1) {
            if (random.nextInt(150) == 0 && calls < CALLS - 110) {
                readNet();
            }
            int which = drawCall();
            int[] args = new int[MOST[which].length];
            for (int i = 0; i < args.length; i++) {
                args[i] = draw(MOST[which][i]);
            }
            call(which, args);
        }
        call(NAMES.length - 1);
    }

    public static void main(String[] args) throws ReflectiveOperationException {
        Check check = new Check();
        for (int run = 0; run < RUNS && check.wrong() < 20; run++) {
            new RandomRunsTest(run, check).go();
        }
        check.end();
    }
}
