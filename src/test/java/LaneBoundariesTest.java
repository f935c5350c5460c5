/** Promises 27 to 34: each sentence of theirs that names a boundary. */
public final class LaneBoundariesTest extends Boundary {
    public static void main(String[] args) {
        LaneBoundariesTest test = new LaneBoundariesTest();
        test.hold(27, 34,
                test::laneOutside, test::laneFull, test::laneCounts, test::clearTellsHowMany,
                test::clearLeaves, test::streamLimits, test::streamOutside, test::shareLimits,
                test::shareOutside, test::flowUnknown, test::flowOutside, test::flowOfNothing,
                test::flowInLowestTerms, test::flowEvenAtTheEdge, test::flowWiseAtTheEdge,
                test::flowLeadersByEachShare, test::flowLeadersInTheirOrder,
                test::flowLedByNothingAndByAll, test::flowLedAtTheEdge, test::flowLedOverThree,
                test::flowOfOneLane,
                test::flowOfFive, test::levelRefused, test::levelOfLanesWithSome,
                test::totalRefused, test::totalRoundedDown, test::totalLeastAndMost,
                test::worseRefused, test::worseRoundedDown, test::lanesFollowChanges);
    }

    /** A lane that costs X, and one that costs 6 and X. */
    private static SelfishWays two(int stream, int share) {
        return lanes(stream, share, 0, 1, 6, 1);
    }

    private static SelfishWays fullLanes() {
        return lanes(7, 4, 0, 1, 20, 4, 5, 2, 0, 1, 3, 1);
    }

    // ---- promise 27

    private void laneOutside() {
        promise(27, "OUTSIDE: a (0 to 20), b (1, 2, 4)");
        for (int a : new int[] {-1, 21, Integer.MIN_VALUE, Integer.MAX_VALUE}) {
            refused("lane(" + a + ", 1)", Boundary::furnished, x -> x.lane(a, 1), OUTSIDE);
        }
        for (int b : new int[] {0, 3, 5, 8, 16, -1, -2, -4, Integer.MIN_VALUE, Integer.MAX_VALUE}) {
            refused("lane(0, " + b + ")", Boundary::furnished, x -> x.lane(0, b), OUTSIDE);
        }
        for (int a : new int[] {0, 1, 19, 20}) {
            for (int b : new int[] {1, 2, 4}) {
                SelfishWays x = new SelfishWays();
                due("lane(" + a + ", " + b + ")", x.lane(a, b), 0);
                due("level(0) of it", x.level(0), a + 12 * b);
            }
        }
    }

    private void laneFull() {
        promise(27, "FULL: there are five");
        refused("lane(1, 1), the sixth", LaneBoundariesTest::fullLanes, x -> x.lane(1, 1), FULL);
        promise(27, "OUTSIDE: a (0 to 20), b (1, 2, 4); FULL: there are five");
        refused("lane(21, 1), the sixth", LaneBoundariesTest::fullLanes, x -> x.lane(21, 1), OUTSIDE);
        refused("lane(-1, 1), the sixth", LaneBoundariesTest::fullLanes, x -> x.lane(-1, 1), OUTSIDE);
        refused("lane(1, 3), the sixth", LaneBoundariesTest::fullLanes, x -> x.lane(1, 3), OUTSIDE);
    }

    private void laneCounts() {
        promise(27, "A LANE comes: its number");
        SelfishWays x = new SelfishWays();
        for (int lane = 0; lane < 5; lane++) {
            due("lane(20, 4)", x.lane(20, 4), lane);
            due("count(2)", x.count(2), lane + 1);
            due("flow() of one more", x.flow(0, lane + 1, 0), UNKNOWN);
        }
        due("lane(20, 4), the sixth", x.lane(20, 4), FULL);
        x.clear();
        for (int lane = 0; lane < 5; lane++) {
            due("lane(20, 4) behind clear()", x.lane(20, 4), lane);
        }
        due("lane(20, 4), the sixth again", x.lane(20, 4), FULL);
    }

    // ---- promise 28

    private void clearTellsHowMany() {
        promise(28, "No LANES any more: how many there were");
        for (int lanes = 0; lanes <= 5; lanes++) {
            SelfishWays x = new SelfishWays();
            for (int lane = 0; lane < lanes; lane++) {
                x.lane(1, 1);
            }
            due("clear() of " + lanes, x.clear(), lanes);
            due("clear() again", x.clear(), 0);
            due("count(2)", x.count(2), 0);
            due("flow(0, 0, 0)", x.flow(0, 0, 0), UNKNOWN);
            dueRow("level()", x::level, STATE, STATE);
            dueRow("total()", x::total, STATE, STATE, STATE);
            dueRow("worse()", x::worse, STATE, STATE, STATE);
        }
    }

    private void clearLeaves() {
        promise(28, "No LANES any more");
        SelfishWays x = lanes(40, 10, 3, 1);
        x.clear();
        dueAlike("clear(): STREAM and SHARE", x, lanes(40, 10));
        SelfishWays y = four(1, 0, 1, 1);
        y.lane(1, 1);
        type(y, "2;");
        y.clear();
        SelfishWays same = four(1, 0, 1, 1);
        type(same, "2;");
        dueAlike("clear(): the net and the page", y, same);
    }

    // ---- promises 29 and 30

    private void streamLimits() {
        promise(29, "There is another STREAM: which it was ... D (1 to 40; 12 at first)");
        SelfishWays x = new SelfishWays();
        int was = 12;
        for (int d = 40; d >= 1; d--) {
            due("stream(" + d + ")", x.stream(d), was);
            was = d;
        }
        due("stream(1) again", x.stream(1), 1);
        x.lane(0, 1);
        dueFlow(x, 0, 0, 1, 1);
        x.stream(40);
        dueFlow(x, 0, 0, 40, 1);
        SelfishWays first = new SelfishWays();
        first.lane(0, 1);
        dueFlow(first, 0, 0, 12, 1);
    }

    private void streamOutside() {
        promise(29, "OUTSIDE: d (1 to 40)");
        for (int d : new int[] {0, 41, -1, -12, Integer.MIN_VALUE, Integer.MAX_VALUE}) {
            refused("stream(" + d + ")", Boundary::furnished, x -> x.stream(d), OUTSIDE);
            refused("stream(" + d + ") of a new one", SelfishWays::new, x -> x.stream(d), OUTSIDE);
        }
    }

    private void shareLimits() {
        promise(30, "There is another SHARE: which it was ... S (0 to 10; 5 at first)");
        SelfishWays x = new SelfishWays();
        int was = 5;
        for (int s = 10; s >= 0; s--) {
            due("share(" + s + ")", x.share(s), was);
            was = s;
        }
        due("share(0) again", x.share(0), 0);
        x.lane(0, 1);
        dueFlow(x, 3, 0, 0, 1);
        x.share(10);
        dueFlow(x, 3, 0, 12, 1);
        SelfishWays first = new SelfishWays();
        first.lane(0, 1);
        dueFlow(first, 3, 0, 6, 1);
    }

    private void shareOutside() {
        promise(30, "OUTSIDE: s (0 to 10)");
        for (int s : new int[] {-1, 11, 12, Integer.MIN_VALUE, Integer.MAX_VALUE}) {
            refused("share(" + s + ")", Boundary::furnished, x -> x.share(s), OUTSIDE);
            refused("share(" + s + ") of a new one", SelfishWays::new, x -> x.share(s), OUTSIDE);
        }
    }

    // ---- promise 31

    private void flowUnknown() {
        promise(31, "UNKNOWN: lane");
        for (int lane : new int[] {-1, 3, 4, 5, Integer.MIN_VALUE, Integer.MAX_VALUE}) {
            refused("flow(0, " + lane + ", 0)", Boundary::furnished, x -> x.flow(0, lane, 0), UNKNOWN);
        }
        due("flow(0, 5, 0) of five", fullLanes().flow(0, 5, 0), UNKNOWN);
        due("flow(0, 0, 0) without lanes", new SelfishWays().flow(0, 0, 0), UNKNOWN);
        promise(31, "UNKNOWN: lane; OUTSIDE: kind, what");
        due("flow(4, 3, 0)", furnished().flow(4, 3, 0), UNKNOWN);
        due("flow(0, -1, 2)", furnished().flow(0, -1, 2), UNKNOWN);
        due("flow(-1, 0, -1) without lanes", new SelfishWays().flow(-1, 0, -1), UNKNOWN);
    }

    private void flowOutside() {
        promise(31, "OUTSIDE: kind, what");
        for (int n : new int[] {-1, 4, 5, Integer.MIN_VALUE, Integer.MAX_VALUE}) {
            refused("flow(" + n + ", 2, 0)", Boundary::furnished, x -> x.flow(n, 2, 0), OUTSIDE);
            refused("flow(0, 2, " + n + ")", Boundary::furnished, x -> x.flow(0, 2, n), OUTSIDE);
        }
        for (int kind = 0; kind <= 3; kind++) {
            due("flow(" + kind + ", 0, 2)", furnished().flow(kind, 0, 2), OUTSIDE);
        }
    }

    private void flowOfNothing() {
        promise(31, "(of 0: 0 and 1)");
        SelfishWays x = lanes(1, 10, 0, 4, 20, 1);
        for (int kind = 0; kind <= 3; kind++) {
            dueFlow(x, kind, 0, 1, 1);
            dueFlow(x, kind, 1, 0, 1);
        }
        x.share(0);
        dueFlow(x, 3, 0, 0, 1);
        dueFlow(x, 3, 1, 0, 1);
    }

    private void flowInLowestTerms() {
        promise(31, "The amount on a LANE, in lowest terms");
        SelfishWays x = lanes(1, 5, 0, 1, 0, 2, 0, 4);
        for (int kind = 0; kind <= 2; kind++) {
            dueFlow(x, kind, 0, 4, 7);
            dueFlow(x, kind, 1, 2, 7);
            dueFlow(x, kind, 2, 1, 7);
        }
        dueFlow(x, 3, 0, 1, 2);
        x.stream(7);
        for (int kind = 0; kind <= 2; kind++) {
            dueFlow(x, kind, 0, 4, 1);
            dueFlow(x, kind, 1, 2, 1);
            dueFlow(x, kind, 2, 1, 1);
        }
        SelfishWays half = two(13, 0);
        dueFlow(half, 0, 0, 19, 2);
        dueFlow(half, 0, 1, 7, 2);
    }

    private void flowEvenAtTheEdge() {
        promise(31, "EVEN: so that no LANE that has some costs more than another one");
        int[][] want = {{5, 1, 0, 1}, {6, 1, 0, 1}, {13, 2, 1, 2}, {7, 1, 1, 1}};
        for (int d = 5; d <= 8; d++) {
            dueFlow(two(d, 5), 0, 0, want[d - 5][0], want[d - 5][1]);
            dueFlow(two(d, 5), 0, 1, want[d - 5][2], want[d - 5][3]);
        }
        // The third lane opens where the first two cost 4: at 4 and 1.
        SelfishWays three = lanes(5, 5, 0, 1, 2, 2, 4, 4);
        dueFlow(three, 0, 0, 4, 1);
        dueFlow(three, 0, 1, 1, 1);
        dueFlow(three, 0, 2, 0, 1);
        three.stream(12);
        dueFlow(three, 0, 0, 8, 1);
        dueFlow(three, 0, 1, 3, 1);
        dueFlow(three, 0, 2, 1, 1);
    }

    private void flowWiseAtTheEdge() {
        promise(31, "WISE: so that the amounts, each multiplied by what its LANE costs, are least together");
        int[][] want = {{2, 1, 0, 1}, {3, 1, 0, 1}, {7, 2, 1, 2}, {4, 1, 1, 1}};
        for (int d = 2; d <= 5; d++) {
            dueFlow(two(d, 5), 1, 0, want[d - 2][0], want[d - 2][1]);
            dueFlow(two(d, 5), 1, 1, want[d - 2][2], want[d - 2][3]);
        }
        SelfishWays steep = lanes(5, 5, 0, 4, 20, 1);
        dueFlow(steep, 0, 0, 5, 1);
        dueFlow(steep, 0, 1, 0, 1);
        dueFlow(steep, 1, 0, 3, 1);
        dueFlow(steep, 1, 1, 2, 1);
    }

    private void flowLeadersByEachShare() {
        promise(31, "S tenths of D are the LEADER'S: they fill LANES up to what these have by WISE");
        // Wise is 4 and 1; the second lane costs most, and has its 1 by two tenths of 5.
        int[][] want = {{0, 1, 0, 1}, {0, 1, 1, 2}, {0, 1, 1, 1}, {1, 2, 1, 1}, {1, 1, 1, 1}, {3, 2, 1, 1},
            {2, 1, 1, 1}, {5, 2, 1, 1}, {3, 1, 1, 1}, {7, 2, 1, 1}, {4, 1, 1, 1}};
        for (int s = 0; s <= 10; s++) {
            dueFlow(two(5, s), 3, 0, want[s][0], want[s][1]);
            dueFlow(two(5, s), 3, 1, want[s][2], want[s][3]);
        }
    }

    private void flowLeadersInTheirOrder() {
        promise(31, "those that cost most by WISE first (of several the lesser number)");
        SelfishWays alike = lanes(3, 5, 0, 1, 0, 1, 0, 1);
        dueFlow(alike, 3, 0, 1, 1);
        dueFlow(alike, 3, 1, 1, 2);
        dueFlow(alike, 3, 2, 0, 1);
        // By wise the lanes have 1 and 2, and cost 6 both.
        SelfishWays steepFirst = lanes(3, 5, 4, 2, 4, 1);
        dueFlow(steepFirst, 3, 0, 1, 1);
        dueFlow(steepFirst, 3, 1, 1, 2);
        SelfishWays flatFirst = lanes(3, 5, 4, 1, 4, 2);
        dueFlow(flatFirst, 3, 0, 3, 2);
        dueFlow(flatFirst, 3, 1, 0, 1);
        // What costs most and has nothing by wise gets nothing.
        SelfishWays idle = lanes(2, 5, 20, 1, 0, 1);
        dueFlow(idle, 3, 0, 0, 1);
        dueFlow(idle, 3, 1, 1, 1);
        // The last one costs most, then the first one: by wise 5, 7 and 3.
        SelfishWays lastFirst = lanes(15, 3, 4, 1, 0, 1, 8, 1);
        dueFlow(lastFirst, 1, 0, 5, 1);
        dueFlow(lastFirst, 3, 0, 3, 2);
        dueFlow(lastFirst, 3, 1, 0, 1);
        dueFlow(lastFirst, 3, 2, 3, 1);
    }

    private void flowLedByNothingAndByAll() {
        promise(31, "2 LED (all of it) ... S (0 to 10; 5 at first)");
        SelfishWays x = fullLanes();
        for (int lane = 0; lane < 5; lane++) {
            x.share(0);
            dueFlow(x, 2, lane, x.flow(0, lane, 0), x.flow(0, lane, 1));
            dueFlow(x, 3, lane, 0, 1);
            x.share(10);
            dueFlow(x, 2, lane, x.flow(1, lane, 0), x.flow(1, lane, 1));
            dueFlow(x, 3, lane, x.flow(1, lane, 0), x.flow(1, lane, 1));
        }
    }

    private void flowLedAtTheEdge() {
        promise(31, "then the rest of D parts EVEN over what lies there");
        // Of 10: by two tenths both cost 8, by three the second one alone is dearer, by four it is wise.
        int[][] want = {{8, 1, 2, 1}, {8, 1, 2, 1}, {8, 1, 2, 1}, {7, 1, 3, 1}, {13, 2, 7, 2}, {13, 2, 7, 2}};
        for (int s = 0; s <= 5; s++) {
            dueFlow(two(10, s), 2, 0, want[s][0], want[s][1]);
            dueFlow(two(10, s), 2, 1, want[s][2], want[s][3]);
        }
        due("flow(3, 1, 0) by 2", two(10, 2).flow(3, 1, 0), 2);
        // The rest must fill the second one up to the first one's cost, though more lies on that.
        SelfishWays alike = lanes(4, 5, 0, 1, 0, 1);
        dueFlow(alike, 3, 0, 2, 1);
        dueFlow(alike, 2, 0, 2, 1);
        dueFlow(alike, 2, 1, 2, 1);
    }

    private void flowLedOverThree() {
        promise(31, "they fill LANES ... one after the other ... as far as they go");
        // By wise 5, 4 and 1, which cost 5, 6 and 9: the last one is full by one tenth of 10.
        int[][] leaders = {{0, 0, 1}, {0, 1, 1}, {0, 4, 1}, {1, 4, 1}};
        int[] shares = {1, 2, 5, 6};
        for (int i = 0; i < shares.length; i++) {
            SelfishWays x = lanes(10, shares[i], 0, 1, 2, 1, 8, 1);
            for (int lane = 0; lane < 3; lane++) {
                dueFlow(x, 3, lane, leaders[i][lane], 1);
            }
        }
        promise(31, "no LANE that gets some of it costs more, with all that is on it, than another one");
        // By two tenths the lanes lie at 0, 3 and 9, and 8 come: the first two cost 5 and a half.
        SelfishWays open = lanes(10, 2, 0, 1, 2, 1, 8, 1);
        dueFlow(open, 2, 0, 11, 2);
        dueFlow(open, 2, 1, 7, 2);
        dueFlow(open, 2, 2, 1, 1);
        // By five they lie at 0, 6 and 9: the 5 that come bring the first one to 5.
        SelfishWays shut = lanes(10, 5, 0, 1, 2, 1, 8, 1);
        dueFlow(shut, 2, 0, 5, 1);
        dueFlow(shut, 2, 1, 4, 1);
        dueFlow(shut, 2, 2, 1, 1);
    }

    private void flowOfOneLane() {
        promise(31, "parts over them to amounts, not below 0, D together");
        for (int d : new int[] {1, 39, 40}) {
            SelfishWays x = lanes(d, 10, 20, 4);
            for (int kind = 0; kind <= 3; kind++) {
                dueFlow(x, kind, 0, d, 1);
            }
        }
        dueFlow(lanes(1, 1, 20, 4), 3, 0, 1, 10);
        dueFlow(lanes(1, 5, 20, 4), 3, 0, 1, 2);
        dueFlow(lanes(1, 9, 20, 4), 3, 0, 9, 10);
        dueFlow(lanes(40, 9, 20, 4), 3, 0, 36, 1);
        dueFlow(lanes(1, 9, 20, 4), 2, 0, 1, 1);
    }

    private void flowOfFive() {
        promise(31, "parts over them to amounts, not below 0, D together ... (five at most)");
        SelfishWays x = lanes(1, 10, 20, 4, 20, 4, 20, 4, 20, 4, 20, 4);
        for (int lane = 0; lane < 5; lane++) {
            for (int kind = 0; kind <= 3; kind++) {
                dueFlow(x, kind, lane, 1, 5);
            }
        }
        x.stream(40);
        for (int lane = 0; lane < 5; lane++) {
            for (int kind = 0; kind <= 3; kind++) {
                dueFlow(x, kind, lane, 8, 1);
            }
        }
        // All five open one after the other: they cost 4 with 4, 3, 2, 1 and 0.
        SelfishWays stairs = lanes(10, 5, 0, 1, 1, 1, 2, 1, 3, 1, 4, 1);
        for (int lane = 0; lane < 5; lane++) {
            dueFlow(stairs, 0, lane, 4 - lane, 1);
        }
        SelfishWays down = lanes(10, 5, 4, 1, 3, 1, 2, 1, 1, 1, 0, 1);
        for (int lane = 0; lane < 5; lane++) {
            dueFlow(down, 0, lane, lane, 1);
        }
        due("level(0)", down.level(0), 4);
    }

    // ---- promise 32

    private void levelRefused() {
        promise(32, "OUTSIDE");
        for (int what : new int[] {-1, 2, 3, Integer.MIN_VALUE, Integer.MAX_VALUE}) {
            refused("level(" + what + ")", Boundary::furnished, x -> x.level(what), OUTSIDE);
            promise(32, "OUTSIDE; STATE: no LANES");
            due("level(" + what + ") without lanes", new SelfishWays().level(what), OUTSIDE);
        }
        promise(32, "STATE: no LANES");
        refused("level(0)", SelfishWays::new, x -> x.level(0), STATE);
        refused("level(1)", SelfishWays::new, x -> x.level(1), STATE);
        refused("level(0) with a net alone", () -> four(1, 1, 1, 0), x -> x.level(0), STATE);
    }

    private void levelOfLanesWithSome() {
        promise(32, "What LANES with some cost by EVEN, in lowest terms");
        int[][] want = {{5, 1}, {6, 1}, {13, 2}, {7, 1}};
        for (int d = 5; d <= 8; d++) {
            dueRow("level() of " + d, two(d, 5)::level, want[d - 5]);
        }
        dueRow("level(): the first one has none", lanes(2, 5, 20, 1, 0, 1)::level, 2, 1);
        dueRow("level() of 1, 2, 4", lanes(1, 5, 0, 1, 0, 2, 0, 4)::level, 4, 7);
        dueRow("level() of the least", lanes(1, 5, 0, 1, 0, 1, 0, 1, 0, 1, 0, 1)::level, 1, 5);
        dueRow("level() of the most", lanes(40, 5, 20, 4)::level, 180, 1);
        dueRow("level() of five dear ones", lanes(1, 5, 20, 4, 20, 4, 20, 4, 20, 4, 20, 4)::level, 104, 5);
        dueRow("level(), whatever SHARE is", two(12, 10)::level, 9, 1);
    }

    // ---- promise 33

    private void totalRefused() {
        promise(33, "OUTSIDE");
        for (int kind : new int[] {-1, 3, 4, Integer.MIN_VALUE, Integer.MAX_VALUE}) {
            refused("total(" + kind + ")", Boundary::furnished, x -> x.total(kind), OUTSIDE);
            promise(33, "OUTSIDE; STATE: no LANES");
            due("total(" + kind + ") without lanes", new SelfishWays().total(kind), OUTSIDE);
        }
        promise(33, "STATE: no LANES");
        for (int kind = 0; kind <= 2; kind++) {
            int asked = kind;
            refused("total(" + kind + ")", SelfishWays::new, x -> x.total(asked), STATE);
        }
    }

    private void totalRoundedDown() {
        promise(33, "in thousandths, rounded down");
        dueRow("total(): 571 and three sevenths", lanes(1, 5, 0, 1, 0, 2, 0, 4)::total, 571, 571, 571);
        dueRow("total(): 333 and a third", lanes(1, 5, 0, 1, 0, 1, 0, 1)::total, 333, 333, 333);
        dueRow("total(): 666 and two thirds", lanes(1, 5, 0, 1, 0, 2)::total, 666, 666, 666);
        dueRow("total(): 916 and two thirds by wise", lanes(1, 0, 0, 1, 1, 2)::total, 1000, 916, 1000);
        promise(33, "All amounts, each multiplied by what its LANE costs, together");
        dueRow("total(): nothing to round", two(10, 3)::total, 80000, 75500, 76000);
        dueRow("total() of 5 by one tenth", two(5, 1)::total, 25000, 23000, 23500);
    }

    private void totalLeastAndMost() {
        promise(33, "All amounts, each multiplied by what its LANE costs, together, in thousandths");
        dueRow("total() of the least", lanes(1, 5, 0, 1, 0, 1, 0, 1, 0, 1, 0, 1)::total, 200, 200, 200);
        dueRow("total() of the most", lanes(40, 5, 20, 4)::total, 7200000, 7200000, 7200000);
        dueRow("total() of five dear ones", lanes(40, 5, 20, 4, 20, 4, 20, 4, 20, 4, 20, 4)::total,
                2080000, 2080000, 2080000);
        dueRow("total() by 0", two(12, 0)::total, 108000, 103500, 108000);
        dueRow("total() by 10", two(12, 10)::total, 108000, 103500, 103500);
    }

    // ---- promise 34

    private void worseRefused() {
        promise(34, "a kind (0 to 2) ... OUTSIDE");
        for (int kind : new int[] {-1, 3, 4, Integer.MIN_VALUE, Integer.MAX_VALUE}) {
            refused("worse(" + kind + ")", Boundary::furnished, x -> x.worse(kind), OUTSIDE);
            promise(34, "OUTSIDE; STATE: no LANES");
            due("worse(" + kind + ") without lanes", new SelfishWays().worse(kind), OUTSIDE);
        }
        promise(34, "STATE: no LANES");
        for (int kind = 0; kind <= 2; kind++) {
            int asked = kind;
            refused("worse(" + kind + ")", SelfishWays::new, x -> x.worse(asked), STATE);
        }
    }

    private void worseRoundedDown() {
        promise(34, "10000 times total() of a kind (0 to 2), divided by total() of 1, rounded down");
        dueRow("worse(): 10596.02.. and 10066.2..", two(10, 3)::worse, 10596, 10000, 10066);
        dueRow("worse(): 10869.5.. and 10217.3..", two(5, 1)::worse, 10869, 10000, 10217);
        dueRow("worse(): nothing to round", lanes(5, 0, 0, 4, 20, 1)::worse, 12500, 10000, 12500);
        dueRow("worse() by what total() tells", lanes(1, 0, 0, 1, 1, 2)::worse, 10917, 10000, 10917);
        dueRow("worse() where even is wise", two(3, 5)::worse, 10000, 10000, 10000);
        dueRow("worse() of the most", lanes(40, 5, 20, 4)::worse, 10000, 10000, 10000);
        dueRow("worse() by 10", two(10, 10)::worse, 10596, 10000, 10000);
        dueRow("worse() by 0", two(10, 0)::worse, 10596, 10000, 10596);
    }

    private void lanesFollowChanges() {
        promise(31, "The amount on a LANE");
        SelfishWays x = two(12, 5);
        dueFlow(x, 0, 0, 9, 1);
        x.stream(6);
        dueFlow(x, 0, 0, 6, 1);
        x.stream(12);
        x.share(0);
        dueFlow(x, 3, 1, 0, 1);
        x.share(3);
        dueFlow(x, 3, 1, 18, 5);
        x.lane(0, 1);
        dueFlow(x, 0, 0, 6, 1);
        dueFlow(x, 0, 1, 0, 1);
        x.clear();
        x.lane(0, 2);
        promise(32, "What LANES with some cost by EVEN");
        dueRow("level() behind clear()", x::level, 24, 1);
        promise(33, "All amounts");
        dueRow("total() behind clear()", x::total, 288000, 288000, 288000);
        promise(34, "10000 times total()");
        dueRow("worse() behind clear()", x::worse, 10000, 10000, 10000);
        for (int kind = 0; kind <= 3; kind++) {
            int asked = kind;
            promise(31, "The amount on a LANE");
            tellsOnly("flow(" + kind + ", 0, 1)", () -> two(12, 3), y -> y.flow(asked, 0, 1),
                    new int[] {1, 2, 5, 1}[kind]);
        }
    }
}
