import java.math.BigInteger;
import java.util.Arrays;

/** Promises 35 and 36: each sentence of theirs that names a boundary. */
public final class TellingBoundariesTest extends Boundary {
    public static void main(String[] args) {
        TellingBoundariesTest test = new TellingBoundariesTest();
        test.hold(35, 36,
                test::countOutside, test::countFromNothing, test::countAtTheMost,
                test::countNotWhatIsRefused, test::countComings, test::countTurns,
                test::digestOfNothing, test::digestOfLetters, test::digestOfANet,
                test::digestOfAPlayer, test::digestOfTwoPlayers, test::digestOfLanes,
                test::digestOfManySets, test::digestWraps, test::digestTellsOnly);
    }

    // ---- promise 35

    private void countOutside() {
        promise(35, "OUTSIDE");
        for (int what : new int[] {-1, 7, 8, Integer.MIN_VALUE, Integer.MAX_VALUE}) {
            refused("count(" + what + ")", Boundary::furnished, x -> x.count(what), OUTSIDE);
            refused("count(" + what + ") of a new one", SelfishWays::new, x -> x.count(what), OUTSIDE);
        }
    }

    private void countFromNothing() {
        promise(35, "How many");
        dueRow("count() of a new one", new SelfishWays()::count, 0, 0, 0, 0, 0, 0, 0);
        dueRow("count() of everything", furnished()::count, 5, 3, 3, 3, 1, 3, 0);
        dueRow("count() of a page", page("2;0>1:0+1")::count, 0, 0, 0, 9, 0, 0, 0);
    }

    private void countAtTheMost() {
        promise(35, "0 ROADS, 1 PLAYERS, 2 LANES, 3 letters of THE PAGE");
        SelfishWays x = on("2" + ";0>1:20+9".repeat(10), 6, 0, 1);
        for (int lane = 0; lane < 6; lane++) {
            x.lane(0, 1);
        }
        type(x, "2".repeat(93));
        dueRow("count()", x::count, 10, 5, 5, 92, 1, 5, 0);
        while (x.drop() > 0) {
            continue;
        }
        x.clear();
        x.blank();
        dueRow("count() with all gone but the net", x::count, 10, 0, 0, 0, 1, 5, 0);
    }

    private void countNotWhatIsRefused() {
        promise(35, "4 how often a NET was read, 5 how often a PLAYER came");
        SelfishWays x = on(TWO_ROADS);
        x.net();
        type(x, "2;0>1");
        x.net();
        x.player(1, 0);
        x.player(0, 0);
        x.player(0, 2);
        dueRow("count()", x::count, 2, 0, 0, 5, 1, 0, 0);
        come(x, 7, 0, 1);
        dueRow("count() with five", x::count, 2, 5, 0, 5, 1, 5, 0);
        promise(35, "6 how many TURNS there were by turn() and run()");
        SelfishWays none = new SelfishWays();
        none.turn();
        none.run(60);
        due("count(6) without net", none.count(6), 0);
        SelfishWays out = four(1, 1, 1, 1);
        out.run(0);
        out.run(61);
        due("count(6) behind run(0), run(61)", out.count(6), 0);
    }

    private void countComings() {
        promise(35, "5 how often a PLAYER came");
        SelfishWays x = four();
        x.drop();
        x.player(0, 1);
        due("count(5) behind drop()", x.count(5), 5);
        type(x, TWO_ROADS);
        x.net();
        dueRow("count() behind another net", x::count, 2, 0, 0, 0, 2, 5, 0);
        x.player(0, 1);
        due("count(5)", x.count(5), 6);
    }

    private void countTurns() {
        promise(35, "6 how many TURNS there were by turn() and run()");
        SelfishWays x = four(1, 1, 1, 1);
        x.turn();
        due("count(6) behind turn()", x.count(6), 1);
        x.run(60);
        due("count(6) behind run(60) of two", x.count(6), 3);
        x.turn();
        x.run(1);
        due("count(6) at rest", x.count(6), 3);
        take(x, 1, 1, 1, 1);
        x.lead(0, 0);
        x.leads(0);
        due("count(6) behind lead(), leads()", x.count(6), 3);
        x.follow(0);
        due("count(6) behind follow()", x.count(6), 3);
        x.go(0);
        x.best();
        x.reach(2);
        due("count(6) behind go(), best(), reach()", x.count(6), 3);
        take(x, 1, 1, 1, 1);
        x.run(1);
        due("count(6) behind run(1)", x.count(6), 4);
        type(x, TWO_ROADS);
        x.net();
        due("count(6) behind another net", x.count(6), 4);
    }

    // ---- promise 36

    /** 31 times h and the next number, without an end, and the last 64 bits of that. */
    private void dueDigest(String when, SelfishWays x, int... numbers) {
        BigInteger h = BigInteger.valueOf(1543);
        for (int number : numbers) {
            h = h.multiply(BigInteger.valueOf(31)).add(BigInteger.valueOf(number));
        }
        due("digest() " + when, x.digest(), h.longValue());
    }

    private void digestOfNothing() {
        promise(36, "h is 1543 ... what count() tells for 0 to 6");
        dueDigest("of a new one", new SelfishWays(), 0, 0, 0, 0, 0, 0, 0);
        SelfishWays x = new SelfishWays();
        x.mode(2);
        x.stream(40);
        x.share(10);
        dueDigest("without net and lanes, whatever MODE, STREAM and SHARE are", x, 0, 0, 0, 0, 0, 0, 0);
    }

    private void digestOfLetters() {
        promise(36, "letters of THE PAGE");
        dueDigest("of one letter", page("2"), 50, 0, 0, 0, 1, 0, 0, 0);
        dueDigest("of the least and the greatest", page(" ~"), 32, 126, 0, 0, 0, 2, 0, 0, 0);
        int[] full = new int[92 + 7];
        Arrays.fill(full, 0, 92, 126);
        full[92 + 3] = 92;
        dueDigest("of a full page", page("~".repeat(92)), full);
        SelfishWays x = page("~~~");
        x.blank();
        dueDigest("of a page that was blanked", x, 0, 0, 0, 0, 0, 0, 0);
    }

    private void digestOfANet() {
        promise(36, "with a NET about() for 0 to 7, of each ROAD road() for 0 to 7");
        SelfishWays x = on("2;0>1:3+1");
        dueDigest("of a net with nobody", x,
                2, 1, 0, 0, 0, 1, 1, 0, 0, 1, 3, 1, 0, 0, NONE, 4, 1, 0, 0, 0, 1, 0, 0);
        x.mode(1);
        x.put(0, 2, 40);
        x.letter(50);
        dueDigest("of a net with nobody, with tolls", x,
                2, 1, 1, 0, 0, 1, 1, 0, 0, 1, 3, 1, 40, 0, NONE, 44, 50, 1, 0, 0, 1, 1, 0, 0);
    }

    private void digestOfAPlayer() {
        promise(36, "of each PLAYER who() for 0 to 6, pay() by each of its WAYS, "
                + "the ROADS of that which it takes; ... rests() for 0 to 5, price() for 0 to 3, "
                + "reach() for 0 to 2; of each PLAYER lead() by each of its WAYS");
        SelfishWays x = on("2;0>1:3+1", 1, 0, 1);
        dueDigest("of one with one way", x,
                2, 1, 0, 4, 4, 1, 1, 1, 0, 1, 3, 1, 0, 1, 4, 5, 0, 1, 1, 0, 4, 0, 4, 4, 0,
                1, 4, 4, 4, 4, 1, 1, 1, 1, 1, 1, 1, 0, 4, 1, 1, 0, 0, 1, 1, 0);
        x.drop();
        dueDigest("with nobody again", x,
                2, 1, 0, 0, 0, 1, 1, 0, 0, 1, 3, 1, 0, 0, NONE, 4, 1, 0, 0, 0, 1, 1, 0);
    }

    private void digestOfTwoPlayers() {
        promise(36, "for each of these numbers, in order");
        SelfishWays x = on("3;0>1:1+2;1>2:3+0;0>2:5+1");
        x.player(0, 2);
        x.player(0, 1);
        // The first one pays 6 by road 2 and would pay 1, 4 and 3 by 0 and 1.
        dueDigest("of two", x,
                3, 3, 0, 9, 9, 1, 2, 1,
                0, 1, 1, 2, 0, 1, 3, 5,
                1, 2, 3, 0, 0, 0, NONE, 3,
                0, 2, 5, 1, 0, 1, 6, 7,
                0, 2, 2, 0, 6, 0, 6, 6, 8, 2,
                0, 1, 1, 0, 3, 0, 3, 3, 0,
                1, 9, 9, 9, 9, 1, 1, 1, 1, 1, 1, 1, 0,
                6, 8, 3,
                3, 2, 0, 0, 1, 2, 0);
        x.set(0, 1);
        // If the second one leads, the first one leaves it the road: it pays 3, not 5.
        dueDigest("of two not at rest", x,
                3, 3, 0, 13, 11, 0, 2, 2,
                0, 1, 1, 2, 0, 2, 5, 7,
                1, 2, 3, 0, 0, 1, 3, 3,
                0, 2, 5, 1, 0, 0, NONE, 6,
                0, 2, 2, 1, 8, 0, 6, 6, 8, 0, 1,
                0, 1, 1, 0, 5, 0, 5, 5, 0,
                1, 9, 9, 9, 9, 1, 1, 1, 1, 1, 2, 1, 1,
                6, 8, 3,
                3, 2, 0, 0, 1, 2, 0);
    }

    private void digestOfLanes() {
        promise(36, "of each LANE flow() by kinds 0 to 3, 0, then 1; "
                + "with LANES level() for 0 and 1, total() for 0 to 2");
        dueDigest("of one lane", lanes(12, 5, 6, 2),
                12, 1, 12, 1, 12, 1, 6, 1, 30, 1, 360000, 360000, 360000, 0, 0, 1, 0, 0, 0, 0);
        dueDigest("of two lanes", lanes(10, 3, 0, 1, 6, 1),
                8, 1, 13, 2, 7, 1, 0, 1, 2, 1, 7, 2, 3, 1, 3, 1,
                8, 1, 80000, 75500, 76000, 0, 0, 2, 0, 0, 0, 0);
        SelfishWays x = lanes(10, 3, 0, 1, 6, 1);
        x.clear();
        dueDigest("of lanes that are cleared", x, 0, 0, 0, 0, 0, 0, 0);
        SelfishWays all = on("2;0>1:3+1");
        all.lane(6, 2);
        all.letter(126);
        dueDigest("of a net, a lane and a letter", all,
                2, 1, 0, 0, 0, 1, 1, 0, 0, 1, 3, 1, 0, 0, NONE, 4,
                12, 1, 12, 1, 12, 1, 6, 1, 30, 1, 360000, 360000, 360000, 126, 1, 0, 1, 1, 1, 0, 0);
    }

    /** Three players, each on a road of its own of eight alike: 512 sets. */
    private void digestOfManySets() {
        promise(36, "if rests() would not be refused, rests() for 0 to 5, price() for 0 to 3, "
                + "reach() for 0 to 2");
        int[] numbers = new int[8 + 8 * 8 + 3 * (7 + 8 + 1) + 3 * 8 + 7];
        int size = 0;
        for (int number : new int[] {2, 8, 0, 3, 3, 1, 512, 1}) {
            numbers[size++] = number;
        }
        for (int road = 0; road < 8; road++) {
            int load = road < 3 ? 1 : 0;
            for (int number : new int[] {0, 1, 0, 1, 0, load, load == 1 ? 1 : NONE, load + 1}) {
                numbers[size++] = number;
            }
        }
        for (int player = 0; player < 3; player++) {
            for (int number : new int[] {0, 1, 8, player, 1, player, 1}) {
                numbers[size++] = number;
            }
            for (int way = 0; way < 8; way++) {
                numbers[size++] = way < 3 && way != player ? 2 : 1;
            }
            numbers[size++] = player;
        }
        for (int lead = 0; lead < 24; lead++) {
            numbers[size++] = 1;
        }
        for (int number : new int[] {8, 3, 0, 0, 1, 3, 0}) {
            numbers[size++] = number;
        }
        dueDigest("of 512 sets", on("2" + ";0>1:0+1".repeat(8), 3, 0, 1), numbers);
    }

    private void digestWraps() {
        promise(36, "31 times h, and it (as longs, wrapping)");
        // 1543 times 31 to the 7th is below 2 to the 63rd, to the 12th it is not.
        dueDigest("that wraps", page("     "), 32, 32, 32, 32, 32, 0, 0, 0, 5, 0, 0, 0);
        int[] numbers = new int[13 + 7];
        Arrays.fill(numbers, 0, 13, 90);
        numbers[13 + 3] = 13;
        dueDigest("that wraps again", page("Z".repeat(13)), numbers);
    }

    private void digestTellsOnly() {
        promise(36, "digest");
        SelfishWays x = furnished();
        long told = x.digest();
        due("digest() again", x.digest(), told);
        dueAlike("digest()", x, furnished());
        due("digest() of another one alike", furnished().digest(), told);
        SelfishWays last = four(1, 1, 1, 1);
        long before = last.digest();
        // 17 letters, net, 4 players, 4 sets and digest() are 27 calls.
        for (int calls = 28; calls <= 511; calls++) {
            last.fault();
        }
        due("digest(), call 512", last.digest(), before);
    }
}
