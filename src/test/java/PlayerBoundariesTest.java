/** Promises 10 to 17: each sentence of theirs that names a boundary. */
public final class PlayerBoundariesTest extends Boundary {
    private static final String TWELVE_WAYS = "3" + ";0>1:0+1".repeat(3) + ";1>2:0+1".repeat(4);
    private static final String THREE_ALIKE = "2;0>1:3+0;0>1:2+0;0>1:2+0";

    public static void main(String[] args) {
        PlayerBoundariesTest test = new PlayerBoundariesTest();
        test.hold(10, 17,
                test::playerWithoutNet, test::playerUnknown, test::playerFull,
                test::playerWithoutWay, test::playerWithTooManyWays, test::playerTakesTheLeast,
                test::playerAsTheOthersAre, test::dropToNobody, test::dropTakesItsLoad,
                test::dropAndComeAgain, test::whoUnknown, test::whoOutside, test::whoBestWay,
                test::wayUnknown, test::waySizes, test::wayOrder, test::wayNoNodeTwice,
                test::payUnknown, test::payItAlone, test::setUnknown, test::setTheSame,
                test::setMovesOne, test::turnWithoutNet, test::turnAtRest, test::turnOfTheLeast,
                test::turnToTheBest, test::runOutside, test::runWithoutNet, test::runSoMany,
                test::runIsTurns);
    }

    // ---- promise 10

    private static SelfishWays five() {
        return on(TWO_ROADS, 5, 0, 1);
    }

    private void playerWithoutNet() {
        promise(10, "STATE: no NET");
        refused("player(0, 1)", SelfishWays::new, x -> x.player(0, 1), STATE);
        refused("player(0, 1) with a page alone", () -> page(TWO_ROADS), x -> x.player(0, 1), STATE);
        promise(10, "STATE: no NET; UNKNOWN: from, to");
        due("player(0, 0)", new SelfishWays().player(0, 0), STATE);
        due("player(-1, 9)", new SelfishWays().player(-1, 9), STATE);
    }

    private void playerUnknown() {
        promise(10, "UNKNOWN: from, to (unlike NODES)");
        for (int node : new int[] {-1, 4, 6, Integer.MIN_VALUE, Integer.MAX_VALUE}) {
            refused("player(" + node + ", 3)", Boundary::furnished, x -> x.player(node, 3), UNKNOWN);
            refused("player(0, " + node + ")", Boundary::furnished, x -> x.player(0, node), UNKNOWN);
            due("player() of the same", furnished().player(node, node), UNKNOWN);
        }
        for (int node = 0; node <= 3; node++) {
            int same = node;
            refused("player(" + node + ", " + node + ")", Boundary::furnished,
                    x -> x.player(same, same), UNKNOWN);
        }
        for (int nodes = 2; nodes <= 6; nodes++) {
            int last = nodes - 1;
            String text = nodes + ";0>" + last + ":1+1;" + last + ">0:1+1";
            due("player() to the last node", on(text).player(0, last), 0);
            due("player() from the last node", on(text).player(last, 0), 0);
            due("player() to one more", on(text).player(0, nodes), UNKNOWN);
            due("player() from one more", on(text).player(nodes, 0), UNKNOWN);
        }
        promise(10, "UNKNOWN: from, to (unlike NODES); FULL: there are five");
        due("player(0, 2), the sixth", five().player(0, 2), UNKNOWN);
        due("player(2, 0), the sixth", five().player(2, 0), UNKNOWN);
        due("player(1, 1), the sixth", five().player(1, 1), UNKNOWN);
    }

    private void playerFull() {
        promise(10, "FULL: there are five");
        SelfishWays x = on(TWO_ROADS);
        for (int player = 0; player < 5; player++) {
            due("player(0, 1)", x.player(0, 1), player);
            due("count(1)", x.count(1), player + 1);
        }
        refused("player(0, 1), the sixth", PlayerBoundariesTest::five, y -> y.player(0, 1), FULL);
        x.drop();
        due("player(0, 1) behind drop()", x.player(0, 1), 4);
        due("player(0, 1), the sixth again", x.player(0, 1), FULL);
        due("count(5)", x.count(5), 6);
        promise(10, "FULL: there are five; STATE: it would have no WAY");
        due("player(1, 0), the sixth", five().player(1, 0), FULL);
        SelfishWays many = on("3" + ";0>1:0+1".repeat(5) + ";1>2:0+1".repeat(5), 5, 0, 1);
        due("player(0, 2), the sixth, with too many ways", many.player(0, 2), FULL);
    }

    private void playerWithoutWay() {
        promise(10, "STATE: it would have no WAY");
        refused("player(1, 0)", () -> four(1, 0, 1, 0), x -> x.player(1, 0), STATE);
        refused("player(3, 0)", Boundary::furnished, x -> x.player(3, 0), STATE);
        refused("player(0, 2): the roads do not meet", () -> on("4;0>1:1+1;3>2:1+1"),
                x -> x.player(0, 2), STATE);
        refused("player(0, 5): no road leads there", () -> on("6;0>1:1+1"), x -> x.player(0, 5), STATE);
        due("player(0, 1): one way", on("6;0>1:1+1").player(0, 1), 0);
    }

    private void playerWithTooManyWays() {
        promise(10, "STATE: it would have ... more than twelve");
        SelfishWays x = on(TWELVE_WAYS);
        due("player(0, 2) with twelve", x.player(0, 2), 0);
        due("who(0, 2)", x.who(0, 2), 12);
        due("pay(0, 11)", x.pay(0, 11), 2);
        due("pay(0, 12)", x.pay(0, 12), UNKNOWN);
        refused("player(0, 2) with thirteen", () -> on(TWELVE_WAYS + ";0>2:0+1", 3, 0, 1),
                y -> y.player(0, 2), STATE);
        String sixteen = "3" + ";0>1:0+1".repeat(4) + ";1>2:0+1".repeat(4);
        refused("player(0, 2) with sixteen", () -> on(sixteen, 2, 1, 2), y -> y.player(0, 2), STATE);
        String most = "6;0>1:0+1;0>1:0+1;1>2:0+1;1>2:0+1;2>3:0+1;2>3:0+1;3>4:0+1;3>4:0+1;4>5:0+1;4>5:0+1";
        refused("player(0, 5) with 32", () -> on(most), y -> y.player(0, 5), STATE);
        due("player(0, 3) with eight", on(most).player(0, 3), 0);
        String byThree = "4;0>1:0+1;0>1:0+1;1>2:0+1;1>2:0+1;2>3:0+1;2>3:0+1;2>3:0+1";
        due("player(0, 3) with twelve of three roads", on(byThree).player(0, 3), 0);
        due("player(0, 3) with thirteen", on(byThree + ";0>3:0+1").player(0, 3), STATE);
        SelfishWays then = on(TWELVE_WAYS + ";0>2:0+1");
        then.player(0, 2);
        due("player(0, 1) behind a refusal", then.player(0, 1), 0);
        due("count(5)", then.count(5), 1);
    }

    private void playerTakesTheLeast() {
        promise(10, "takes that of its WAYS by which its PAY is least, as the others are "
                + "(of several the first)");
        dueSet("player(): the least", on("2;0>1:3+0;0>1:2+0;0>1:1+0", 1, 0, 1), 2);
        dueSet("player(): of several the first", on(THREE_ALIKE, 1, 0, 1), 1);
        dueSet("player(): all alike", on("2;0>1:2+0;0>1:1+1;0>1:0+2", 1, 0, 1), 0);
        SelfishWays x = on(THREE_ALIKE, 1, 0, 1);
        x.set(0, 2);
        x.drop();
        x.player(0, 1);
        dueSet("player(), whatever the one ahead took", x, 1);
    }

    private void playerAsTheOthersAre() {
        promise(10, "its PAY is least, as the others are");
        dueSet("player(): the fourth still pays 4", five(), 0, 0, 0, 0, 1);
        SelfishWays x = four(1, 1, 1, 1);
        x.player(0, 1);
        dueSet("player(): the others stay", x, 1, 1, 1, 1, 0);
        SelfishWays fixed = on("2;0>1:0+1;0>1:1+1");
        fixed.put(0, 2, 2);
        fixed.player(0, 1);
        fixed.mode(1);
        fixed.player(0, 1);
        dueSet("player() by MODE 0, then by MODE 1", fixed, 0, 1);
        // The second one would pay 1 and 2 at the first road by MODE 0, and one more by MODE 2.
        SelfishWays others = on("2;0>1:1+1;0>1:3+0", 1, 0, 1);
        others.mode(2);
        others.player(0, 1);
        dueSet("player() by MODE 2", others, 0, 1);
        SelfishWays none = on("2;0>1:1+1;0>1:3+0", 2, 0, 1);
        dueSet("player() by MODE 0", none, 0, 0);
    }

    // ---- promise 11

    private void dropToNobody() {
        promise(11, "The last PLAYER is gone: how many are left");
        SelfishWays x = five();
        for (int left = 4; left >= 0; left--) {
            due("drop()", x.drop(), left);
            due("count(1)", x.count(1), left);
            due("who() of the one that is gone", x.who(left, 0), UNKNOWN);
        }
        promise(11, "STATE: there are none");
        due("drop() with nobody left", x.drop(), STATE);
        due("drop() again", x.drop(), STATE);
        refused("drop() with nobody", () -> on(TWO_ROADS), SelfishWays::drop, STATE);
        refused("drop() without net", SelfishWays::new, SelfishWays::drop, STATE);
        SelfishWays y = four();
        type(y, TWO_ROADS);
        y.net();
        due("drop() behind another net", y.drop(), STATE);
    }

    private void dropTakesItsLoad() {
        promise(11, "The last PLAYER is gone");
        SelfishWays x = four(0, 1, 0, 1);
        x.drop();
        dueSet("drop(): the others stay", x, 0, 1, 0);
        due("road(1, 5)", x.road(1, 5), 1);
        due("road(0, 5)", x.road(0, 5), 2);
        due("about(6)", x.about(6), 8);
        due("about(3)", x.about(3), 8);
        due("count(5): it came", x.count(5), 4);
        due("rests(0) of three", x.rests(0), 1);
        x.drop();
        x.drop();
        x.drop();
        dueRow("about() with nobody", x::about, 2, 2, 0, 0, 0, 1, 1, 0);
        due("turn() with nobody", x.turn(), NONE);
    }

    private void dropAndComeAgain() {
        promise(11, "The last PLAYER is gone");
        SelfishWays x = on(BRAESS);
        for (int n = 1; n <= 60; n++) {
            due("player(0, 3)", x.player(0, 3), 0);
            due("pay(0, 2)", x.pay(0, 2), 9);
            due("drop()", x.drop(), 0);
        }
        due("count(5)", x.count(5), 60);
        due("player(1, 3)", x.player(1, 3), 0);
        due("who(0, 2): other ways", x.who(0, 2), 2);
        dueRow("pay(0, ) by other ways", way -> x.pay(0, way), 20, 5);
        x.player(0, 3);
        x.set(1, 2);
        x.drop();
        x.player(0, 2);
        // The one ahead in its place had ways with other roads, road 2 among them.
        dueSet("player(0, 2) behind one of other ways", x, 1, 1);
        dueRow("pay(1, )", way -> x.pay(1, way), 20, 4 + 1);
        dueRow("pay(0, )", way -> x.pay(0, way), 20, 1 + 4);
    }

    // ---- promise 12

    private void whoUnknown() {
        promise(12, "UNKNOWN: player");
        for (int player : new int[] {-1, 3, 4, 5, Integer.MIN_VALUE, Integer.MAX_VALUE}) {
            refused("who(" + player + ", 0)", Boundary::furnished, x -> x.who(player, 0), UNKNOWN);
        }
        due("who(4, 0) of five", five().who(4, 0), 0);
        due("who(5, 0) of five", five().who(5, 0), UNKNOWN);
        due("who(0, 0) with nobody", on(TWO_ROADS).who(0, 0), UNKNOWN);
        due("who(0, 0) without net", new SelfishWays().who(0, 0), UNKNOWN);
        promise(12, "UNKNOWN: player; OUTSIDE");
        due("who(3, 7)", furnished().who(3, 7), UNKNOWN);
        due("who(-1, -1)", furnished().who(-1, -1), UNKNOWN);
    }

    private void whoOutside() {
        promise(12, "OUTSIDE");
        for (int what : new int[] {-1, 7, 8, Integer.MIN_VALUE, Integer.MAX_VALUE}) {
            refused("who(2, " + what + ")", Boundary::furnished, x -> x.who(2, what), OUTSIDE);
        }
    }

    private void whoBestWay() {
        promise(12, "BEST WAY of a PLAYER: the one it takes, if none has a lesser PAY; "
                + "else that of the least PAY, of several the first");
        SelfishWays x = on(THREE_ALIKE, 1, 0, 1);
        int[][] want = {{0, 1, 3, 0, 3, 1, 2}, {0, 1, 3, 1, 2, 1, 2}, {0, 1, 3, 2, 2, 2, 2}};
        for (int way = 0; way <= 2; way++) {
            x.set(0, way);
            dueRow("who(0, ) by " + way, what -> x.who(0, what), want[way]);
        }
        x.put(1, 0, 1);
        due("who(0, 5): 2 against 1", x.who(0, 5), 1);
        x.put(1, 0, 2);
        x.put(0, 0, 1);
        due("who(0, 5): an earlier one is the least", x.who(0, 5), 0);
        SelfishWays one = on("2;0>1:20+9", 1, 0, 1);
        dueRow("who(0, ) of one way", what -> one.who(0, what), 0, 1, 1, 0, 29, 0, 29);
        due("who(3, 5): 4 against 4", four(0, 0, 0, 0).who(3, 5), 0);
        due("who(3, 5): 4 against 4, on the other one", four(0, 0, 0, 1).who(3, 5), 1);
        due("who(3, 5): 4 against 3", four(0, 0, 1, 1).who(3, 5), 0);
        due("who(3, 6): 4 against 3", four(0, 0, 1, 1).who(3, 6), 3);
    }

    // ---- promise 13

    private void wayUnknown() {
        promise(13, "UNKNOWN: player, way, place (from 0)");
        for (int n : new int[] {-1, 3, 12, Integer.MIN_VALUE, Integer.MAX_VALUE}) {
            refused("way(" + n + ", 0, 0)", Boundary::furnished, x -> x.way(n, 0, 0), UNKNOWN);
            refused("way(0, " + n + ", 0)", Boundary::furnished, x -> x.way(0, n, 0), UNKNOWN);
            refused("way(0, 2, " + n + ")", Boundary::furnished, x -> x.way(0, 2, n), UNKNOWN);
        }
        due("way(0, 0, 2) of a way of two", furnished().way(0, 0, 2), UNKNOWN);
        due("way(2, 2, 0) of one with two ways", furnished().way(2, 2, 0), UNKNOWN);
        due("way(0, 0, 0) with nobody", on(TWO_ROADS).way(0, 0, 0), UNKNOWN);
        due("way(0, 0, 0) without net", new SelfishWays().way(0, 0, 0), UNKNOWN);
    }

    private void dueWay(SelfishWays x, int player, int way, int... roads) {
        for (int place = 0; place < roads.length; place++) {
            due("way(" + player + ", " + way + ", " + place + ")", x.way(player, way, place), roads[place]);
        }
        due("way(" + player + ", " + way + ", ) behind its last", x.way(player, way, roads.length), UNKNOWN);
    }

    private void waySizes() {
        promise(13, "ROADS, one or more");
        dueWay(on("2;1>0:1+1", 1, 1, 0), 0, 0, 0);
        SelfishWays longest = on("6;4>5:1+1;3>4:1+1;2>3:1+1;1>2:1+1;0>1:1+1", 1, 0, 5);
        due("who(0, 2)", longest.who(0, 2), 1);
        dueWay(longest, 0, 0, 4, 3, 2, 1, 0);
        due("way(0, 0, 5) behind five", longest.way(0, 0, 5), UNKNOWN);
        SelfishWays ten = on("2" + ";0>1:0+0".repeat(10), 1, 0, 1);
        due("who(0, 2) of ten", ten.who(0, 2), 10);
        dueWay(ten, 0, 9, 9);
        due("way(0, 10, 0)", ten.way(0, 10, 0), UNKNOWN);
    }

    private void wayOrder() {
        promise(13, "Their order: of fewer ROADS first");
        SelfishWays x = on("4;0>1:0+0;1>2:0+0;2>3:0+0;0>2:0+0;0>3:0+0;1>3:0+0", 1, 0, 3);
        due("who(0, 2)", x.who(0, 2), 4);
        dueWay(x, 0, 0, 4);
        dueWay(x, 0, 1, 0, 5);
        dueWay(x, 0, 2, 3, 2);
        dueWay(x, 0, 3, 0, 1, 2);
        promise(13, "of as many, that of the lesser ROAD at the first place at which they are unlike");
        SelfishWays first = on("4;2>3:0+0;0>1:0+0;0>2:0+0;1>3:0+0", 1, 0, 3);
        dueWay(first, 0, 0, 1, 3);
        dueWay(first, 0, 1, 2, 0);
        SelfishWays later = on("3;1>2:0+0;0>1:0+0;1>2:0+0;0>1:0+0", 1, 0, 2);
        dueWay(later, 0, 0, 1, 0);
        dueWay(later, 0, 1, 1, 2);
        dueWay(later, 0, 2, 3, 0);
        dueWay(later, 0, 3, 3, 2);
        due("way(0, 4, 0)", later.way(0, 4, 0), UNKNOWN);
    }

    private void wayNoNodeTwice() {
        promise(13, "no NODE twice");
        SelfishWays x = on("3;0>1:0+0;1>0:0+0;1>2:0+0;2>1:0+0;2>0:0+0", 1, 0, 2);
        due("who(0, 2): not back to the first", x.who(0, 2), 1);
        dueWay(x, 0, 0, 0, 2);
        x.player(0, 1);
        due("who(1, 2): not behind the last", x.who(1, 2), 1);
        dueWay(x, 1, 0, 0);
        x.player(2, 0);
        due("who(2, 2)", x.who(2, 2), 2);
        dueWay(x, 2, 0, 4);
        dueWay(x, 2, 1, 3, 1);
        // With six nodes a way may have five roads: enough for each of these rounds.
        SelfishWays loop = on("6;0>1:0+0;1>2:0+0;2>1:0+0;1>3:0+0", 1, 0, 3);
        due("who(0, 2): no round on the way", loop.who(0, 2), 1);
        dueWay(loop, 0, 0, 0, 3);
        SelfishWays back = on("6;0>1:0+0;1>0:0+0;0>2:0+0", 1, 0, 2);
        due("who(0, 2): no round over the first one", back.who(0, 2), 1);
        dueWay(back, 0, 0, 2);
        SelfishWays beyond = on("6;0>1:0+0;1>2:0+0;2>1:0+0", 1, 0, 1);
        due("who(0, 2): no round over the last one", beyond.who(0, 2), 1);
        dueWay(beyond, 0, 0, 0);
    }

    // ---- promise 14

    private void payUnknown() {
        promise(14, "UNKNOWN: player, way");
        for (int n : new int[] {-1, 3, 12, Integer.MIN_VALUE, Integer.MAX_VALUE}) {
            refused("pay(" + n + ", 0)", Boundary::furnished, x -> x.pay(n, 0), UNKNOWN);
            refused("pay(0, " + n + ")", Boundary::furnished, x -> x.pay(0, n), UNKNOWN);
        }
        due("pay(2, 2) of one with two ways", furnished().pay(2, 2), UNKNOWN);
        due("pay(0, 0) with nobody", on(TWO_ROADS).pay(0, 0), UNKNOWN);
        due("pay(0, 0) without net", new SelfishWays().pay(0, 0), UNKNOWN);
    }

    private void payItAlone() {
        promise(14, "by another WAY: what it would pay, if it alone took that");
        SelfishWays x = four(0, 0, 0, 1);
        dueRow("pay(0, )", way -> x.pay(0, way), 3, 4);
        dueRow("pay(3, )", way -> x.pay(3, way), 4, 4);
        // Both by 0 4 3: the roads of that which another way shares carry no one more.
        SelfishWays both = on(BRAESS, 2, 0, 3);
        dueRow("pay(0, )", way -> both.pay(0, way), 8 + 20, 20 + 8, 8 + 1 + 8);
        both.mode(2);
        dueRow("pay(0, ) by MODE 2", way -> both.pay(0, way), 12 + 20, 20 + 12, 12 + 1 + 12);
        both.mode(1);
        both.put(0, 2, 40);
        dueRow("pay(0, ) by MODE 1", way -> both.pay(0, way), 48 + 20, 20 + 8, 48 + 1 + 8);
        SelfishWays most = on("6;0>1:20+9;1>2:20+9;2>3:20+9;3>4:20+9;4>5:20+9", 5, 0, 5);
        due("pay(4, 0) at the most", most.pay(4, 0), 5 * 65);
        tellsOnly("pay(0, 1)", () -> four(0, 0, 0, 1), y -> y.pay(0, 1), 4);
    }

    // ---- promise 15

    private void setUnknown() {
        promise(15, "UNKNOWN: player, way");
        for (int n : new int[] {-1, 3, 12, Integer.MIN_VALUE, Integer.MAX_VALUE}) {
            refused("set(" + n + ", 0)", Boundary::furnished, x -> x.set(n, 0), UNKNOWN);
            refused("set(0, " + n + ")", Boundary::furnished, x -> x.set(0, n), UNKNOWN);
        }
        refused("set(2, 2) of one with two ways", Boundary::furnished, x -> x.set(2, 2), UNKNOWN);
        refused("set(0, 0) with nobody", () -> on(TWO_ROADS), x -> x.set(0, 0), UNKNOWN);
        refused("set(0, 0) without net", SelfishWays::new, x -> x.set(0, 0), UNKNOWN);
    }

    private void setTheSame() {
        promise(15, "A PLAYER takes a WAY: which it took");
        tellsOnly("set(0, 1), which it takes", Boundary::furnished, x -> x.set(0, 1), 1);
        SelfishWays x = on(TWELVE_WAYS, 1, 0, 2);
        int took = 0;
        for (int way = 11; way >= 0; way--) {
            due("set(0, " + way + ")", x.set(0, way), took);
            due("who(0, 3)", x.who(0, 3), way);
            took = way;
        }
    }

    private void setMovesOne() {
        promise(15, "A PLAYER takes a WAY");
        SelfishWays x = four(0, 0, 0, 0);
        due("set(3, 1)", x.set(3, 1), 0);
        dueSet("set(3, 1)", x, 0, 0, 0, 1);
        due("road(0, 5)", x.road(0, 5), 3);
        due("road(1, 5)", x.road(1, 5), 1);
        due("count(6): no turn", x.count(6), 0);
        x.set(3, 0);
        dueAlike("set() there and back", x, four(0, 0, 0, 0));
    }

    // ---- promise 16

    private void turnWithoutNet() {
        promise(16, "STATE: no NET");
        refused("turn()", SelfishWays::new, SelfishWays::turn, STATE);
        refused("turn() with a page alone", () -> page(TWO_ROADS), SelfishWays::turn, STATE);
    }

    private void turnAtRest() {
        promise(16, "NONE: it RESTS");
        tellsOnly("turn() with nobody", () -> on(TWO_ROADS), SelfishWays::turn, NONE);
        tellsOnly("turn(): 4 against 4", () -> four(0, 0, 0, 0), SelfishWays::turn, NONE);
        tellsOnly("turn(): 4 against 4, on the other one", () -> four(0, 0, 1, 0), SelfishWays::turn, NONE);
        tellsOnly("turn() with one way", () -> on("2;0>1:20+9", 5, 0, 1), SelfishWays::turn, NONE);
        due("turn(): 4 against 3", four(0, 0, 1, 1).turn(), 2);
    }

    private void turnOfTheLeast() {
        promise(16, "the least PLAYER that has a WAY of lesser PAY");
        due("turn(): two would", four(1, 0, 1, 0).turn(), 0);
        due("turn(): the first one is well", four(0, 1, 1, 0).turn(), 1);
        SelfishWays last = on("3;0>1:1+0;1>2:5+0;1>2:4+0", 4, 0, 1);
        last.player(1, 2);
        last.set(4, 0);
        due("turn(): the last one alone", last.turn(), 4);
        dueSet("turn(): the last one alone", last, 0, 0, 0, 0, 1);
        due("count(6)", last.count(6), 1);
        SelfishWays x = four(1, 1, 1, 1);
        x.turn();
        dueSet("turn(): one alone moves", x, 0, 1, 1, 1);
    }

    private void turnToTheBest() {
        promise(16, "takes its BEST WAY");
        SelfishWays x = on("2;0>1:9+0;0>1:5+0;0>1:3+0;0>1:3+0", 1, 0, 1);
        x.set(0, 0);
        due("turn()", x.turn(), 0);
        dueSet("turn(): the least, of several the first", x, 2);
        x.set(0, 3);
        due("turn(): as dear", x.turn(), NONE);
        x.set(0, 1);
        x.turn();
        dueSet("turn() from the second one", x, 2);
        x.mode(1);
        x.put(2, 2, 40);
        due("turn() by a toll", x.turn(), 0);
        dueSet("turn() by a toll", x, 3);
    }

    // ---- promise 17

    private void runOutside() {
        promise(17, "OUTSIDE: n (1 to 60)");
        for (int n : new int[] {0, 61, -1, Integer.MIN_VALUE, Integer.MAX_VALUE}) {
            refused("run(" + n + ")", Boundary::furnished, x -> x.run(n), OUTSIDE);
            refused("run(" + n + ") not at rest", () -> four(1, 1, 1, 1), x -> x.run(n), OUTSIDE);
        }
        due("run(1)", four(1, 1, 1, 1).run(1), 1);
        due("run(60)", four(1, 1, 1, 1).run(60), 3);
    }

    private void runWithoutNet() {
        promise(17, "STATE: no NET");
        refused("run(1)", SelfishWays::new, x -> x.run(1), STATE);
        refused("run(60)", SelfishWays::new, x -> x.run(60), STATE);
        promise(17, "OUTSIDE: n (1 to 60); STATE: no NET");
        due("run(0)", new SelfishWays().run(0), OUTSIDE);
        due("run(61)", new SelfishWays().run(61), OUTSIDE);
    }

    private void runSoMany() {
        promise(17, "So many TURNS, or as many as there are till it RESTS: how many there were");
        int[][] behind = {{1, 1, 1, 1}, {0, 1, 1, 1}, {0, 0, 1, 1}, {0, 0, 0, 1}, {0, 0, 0, 1}};
        for (int n = 1; n <= 4; n++) {
            SelfishWays x = four(1, 1, 1, 1);
            due("run(" + n + ")", x.run(n), Math.min(n, 3));
            dueSet("run(" + n + ")", x, behind[n]);
            due("count(6)", x.count(6), Math.min(n, 3));
        }
        tellsOnly("run(60) at rest", () -> four(0, 0, 0, 0), x -> x.run(60), 0);
        tellsOnly("run(1) at rest", () -> four(0, 0, 0, 0), x -> x.run(1), 0);
        tellsOnly("run(60) with nobody", () -> on(TWO_ROADS), x -> x.run(60), 0);
    }

    private void runIsTurns() {
        promise(17, "So many TURNS");
        SelfishWays x = furnished();
        SelfishWays y = furnished();
        int turns = 0;
        while (turns < 60 && y.turn() >= 0) {
            turns++;
        }
        due("run(60)", x.run(60), turns);
        due("about(5)", x.about(5), 1);
        dueAlike("run(60) against turns", x, y);
    }
}
