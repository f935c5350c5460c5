import java.util.ArrayList;
import java.util.List;

/** For each promise of the document: ordinary calls, the edges that it names, and wrong ones. */
public final class PromisesTest {
    private static final int NONE = -1, UNKNOWN = -101, OUTSIDE = -102, STATE = -103, FULL = -104;
    // Two roads side by side: one costs how many are on it, the other one 4.
    private static final String TWO_ROADS = "2;0>1:0+1;0>1:4+0";
    private static final String BRAESS = "4;0>1:0+4;1>3:20+0;0>2:20+0;2>3:0+4;1>2:1+0";

    private final Check check = new Check();

    public static void main(String[] args) {
        PromisesTest test = new PromisesTest();
        test.newObject();
        test.texts();
        test.faults();
        test.netIsRead();
        test.aboutTheNet();
        test.roads();
        test.puts();
        test.modes();
        test.playersCome();
        test.playersGo();
        test.whoTheyAre();
        test.waysInOrder();
        test.paysAndSets();
        test.turns();
        test.allSets();
        test.allSetsByTolls();
        test.allSetsAnew();
        test.allSetsRefused();
        test.pricesByNothing();
        test.reached();
        test.leading();
        test.lanesCome();
        test.streamParts();
        test.leaderFills();
        test.lanesAnew();
        test.roundedDown();
        test.counts();
        test.digests();
        test.extremes();
        test.check.end();
    }

    private void due(String call, long got, long want) {
        check.due(call, got, want);
    }

    private static void type(SelfishWays x, String text) {
        for (int i = 0; i < text.length(); i++) {
            x.letter(text.charAt(i));
        }
    }

    private static SelfishWays on(String text) {
        SelfishWays x = new SelfishWays();
        type(x, text);
        x.net();
        return x;
    }

    /** TWO_ROADS with four players from 0 to 1. */
    private static SelfishWays four() {
        SelfishWays x = on(TWO_ROADS);
        for (int i = 0; i < 4; i++) {
            x.player(0, 1);
        }
        return x;
    }

    private static void takeAll(SelfishWays x, int... ways) {
        for (int i = 0; i < ways.length; i++) {
            x.set(i, ways[i]);
        }
    }

    private void dueSet(String call, SelfishWays x, int... ways) {
        for (int i = 0; i < ways.length; i++) {
            due(call + ", then who(" + i + ", 3)", x.who(i, 3), ways[i]);
        }
    }

    private void dueFlow(SelfishWays x, int kind, int lane, int above, int below) {
        due("flow(" + kind + ", " + lane + ", 0)", x.flow(kind, lane, 0), above);
        due("flow(" + kind + ", " + lane + ", 1)", x.flow(kind, lane, 1), below);
    }

    // ---- promise 1

    private void newObject() {
        SelfishWays x = new SelfishWays();
        for (int what = 0; what <= 6; what++) {
            due("new: count(" + what + ")", x.count(what), 0);
        }
        due("new: about(0)", x.about(0), STATE);
        due("new: road(0, 0)", x.road(0, 0), UNKNOWN);
        due("new: put(0, 0, 0)", x.put(0, 0, 0), UNKNOWN);
        due("new: player(0, 1)", x.player(0, 1), STATE);
        due("new: player(-1, -1)", x.player(-1, -1), STATE);
        due("new: drop()", x.drop(), STATE);
        due("new: who(0, 0)", x.who(0, 0), UNKNOWN);
        due("new: turn()", x.turn(), STATE);
        due("new: run(1)", x.run(1), STATE);
        due("new: run(0)", x.run(0), OUTSIDE);
        due("new: rests(0)", x.rests(0), STATE);
        due("new: lead(0, 0)", x.lead(0, 0), UNKNOWN);
        due("new: leads(0)", x.leads(0), UNKNOWN);
        due("new: follow(0)", x.follow(0), UNKNOWN);
        due("new: flow(0, 0, 0)", x.flow(0, 0, 0), UNKNOWN);
        due("new: flow(9, 0, 9)", x.flow(9, 0, 9), UNKNOWN);
        due("new: level(0)", x.level(0), STATE);
        due("new: level(2)", x.level(2), OUTSIDE);
        due("new: total(0)", x.total(0), STATE);
        due("new: total(3)", x.total(3), OUTSIDE);
        due("new: worse(0)", x.worse(0), STATE);
        due("new: worse(-1)", x.worse(-1), OUTSIDE);
        due("new: stream(12)", x.stream(12), 12);
        due("new: share(5)", x.share(5), 5);
        due("new: mode(0)", x.mode(0), 0);
        due("new: clear()", x.clear(), 0);
        due("new: blank()", x.blank(), 0);
        due("new: fault()", x.fault(), 0);
        due("new: net()", x.net(), STATE);
    }

    // ---- promises 2 to 5

    private void texts() {
        SelfishWays x = new SelfishWays();
        due("letter(31)", x.letter(31), OUTSIDE);
        due("letter(127)", x.letter(127), OUTSIDE);
        due("letter(-1)", x.letter(-1), OUTSIDE);
        due("letter(32)", x.letter(32), 1);
        due("letter(126)", x.letter(126), 2);
        for (int n = 3; n <= 92; n++) {
            due("letter(65)", x.letter(65), n);
        }
        due("letter(65), the 93rd", x.letter(65), FULL);
        due("letter(31), the 93rd", x.letter(31), OUTSIDE);
        due("count(3)", x.count(3), 92);
        due("blank()", x.blank(), 92);
        due("blank() again", x.blank(), 0);
        due("letter(65)", x.letter(65), 1);
    }

    private void dueFault(String text, int want) {
        SelfishWays x = new SelfishWays();
        type(x, text);
        due("fault() of " + text, x.fault(), want);
        due("count(3) behind fault()", x.count(3), text.length());
    }

    private void faults() {
        dueFault("1", 0);
        dueFault("2", 1);
        dueFault("6", 1);
        dueFault("7", 0);
        dueFault("20", 1);
        dueFault("2:", 1);
        dueFault("2;2", 2);
        dueFault("3;2", 3);
        dueFault("3;2;", 3);
        dueFault("3;2>2", 4);
        dueFault("3;2>3", 4);
        dueFault("6;5>4", 5);
        dueFault("2;0>1:", 6);
        dueFault("2;0>1;", 5);
        dueFault("2;0>1:+", 6);
        dueFault("2;0>1:00", 7);
        dueFault("2;0>1:01", 7);
        dueFault("2;0>1:20+", 9);
        dueFault("2;0>1:21", 7);
        dueFault("2;0>1:19+", 9);
        dueFault("2;0>1:3+", 8);
        dueFault("2;0>1:30", 7);
        dueFault("2;0>1:200", 8);
        dueFault("2;0>1:100", 8);
        dueFault("2;0>1:1;", 7);
        dueFault("2;0>1:1++", 8);
        dueFault("2;0>1:1+9", 9);
        dueFault("2;0>1:1+99", 9);
        dueFault("2;0>1:1+9;", 10);
        dueFault(" 2;0>1:1+9", 0);
        dueFault("2;0>1:1+9 ", 9);
        String ten = "2" + ";0>1:20+9".repeat(10);
        dueFault(ten, 91);
        dueFault(ten + ";", 91);
        dueFault("2" + ";0>1:0+9".repeat(10) + ";0>1:0+9", 81);
    }

    private void dueNet(String text, int want) {
        SelfishWays x = new SelfishWays();
        type(x, text);
        due("net() of " + text, x.net(), want);
        due("count(3) behind net()", x.count(3), want == STATE ? text.length() : 0);
        due("count(4) behind net()", x.count(4), want == STATE ? 0 : 1);
        due("count(0) behind net()", x.count(0), want == STATE ? 0 : want);
    }

    private void netIsRead() {
        dueNet("2", STATE);
        dueNet("2;0>1:1", STATE);
        dueNet("2;0>1:1+", STATE);
        dueNet("2;0>1:1+2", 1);
        dueNet("2;0>1:1+2;", STATE);
        dueNet("2;0>1:1+2;1>0:20+9", 2);
        dueNet("2" + ";0>1:20+9".repeat(10), 10);
        dueNet("2" + ";0>1:20+9".repeat(10) + ";", STATE);
        dueNet("2;0>1:05+1", STATE);

        SelfishWays x = four();
        x.put(0, 2, 7);
        x.mode(1);
        type(x, "2;0>1:9+");
        due("net() of a part", x.net(), STATE);
        due("count(1): players stay", x.count(1), 4);
        due("road(0, 4): T stays", x.road(0, 4), 7);
        type(x, "1");
        due("net() of another one", x.net(), 1);
        due("count(1): players are gone", x.count(1), 0);
        due("road(0, 4): T is 0", x.road(0, 4), 0);
        due("road(0, 5): nobody is on it", x.road(0, 5), 0);
        due("road(1, 0): it is gone", x.road(1, 0), UNKNOWN);
        due("about(2): MODE stays", x.about(2), 1);
        due("count(4)", x.count(4), 2);
    }

    // ---- promises 6 to 9

    private void aboutTheNet() {
        SelfishWays x = four();
        int[] want = {2, 2, 0, 16, 10, 1, 16, 4};
        for (int what = 0; what <= 7; what++) {
            due("about(" + what + ")", x.about(what), want[what]);
        }
        due("about(-1)", x.about(-1), OUTSIDE);
        due("about(8)", x.about(8), OUTSIDE);
        due("about(8) with no net", new SelfishWays().about(8), OUTSIDE);
        takeAll(x, 1, 1, 1, 0);
        int[] then = {2, 2, 0, 13, 13, 0, 16, 3};
        for (int what = 0; what <= 7; what++) {
            due("about(" + what + ") by 1110", x.about(what), then[what]);
        }
        x.put(0, 2, 5);
        x.put(1, 2, 1);
        due("about(4) with T by MODE 0", x.about(4), 13);
        x.mode(1);
        due("about(4) by MODE 1", x.about(4), 13 + 5 + 3);
        due("about(3) by MODE 1", x.about(3), 13);
        x.mode(2);
        takeAll(x, 0, 0, 0, 0);
        due("about(4) by MODE 2", x.about(4), 1 + 3 + 5 + 7);
        due("about(3) by MODE 2", x.about(3), 16);
        due("about(5) by MODE 2", x.about(5), 0);
        x.mode(0);
        takeAll(x, 1, 0, 0, 0);
        due("about(5): as dear is no reason", x.about(5), 1);
        x.put(1, 0, 5);
        due("about(5): the first one alone would", x.about(5), 0);
        takeAll(x, 0, 0, 0, 1);
        due("about(5): the last one alone would", x.about(5), 0);
        SelfishWays empty = on(BRAESS);
        int[] nobody = {4, 5, 0, 0, 0, 1, 1, 0};
        for (int what = 0; what <= 7; what++) {
            due("about(" + what + ") with nobody", empty.about(what), nobody[what]);
        }
    }

    private void roads() {
        SelfishWays x = on("3;1>2:17+3;2>0:4+6");
        x.put(0, 2, 40);
        int[] nobody = {1, 2, 17, 3, 40, 0, NONE, 20};
        for (int what = 0; what <= 7; what++) {
            due("road(0, " + what + ")", x.road(0, what), nobody[what]);
        }
        x.player(1, 2);
        x.player(1, 0);
        due("road(0, 5)", x.road(0, 5), 2);
        due("road(0, 6)", x.road(0, 6), 23);
        due("road(0, 7)", x.road(0, 7), 26);
        due("road(1, 5)", x.road(1, 5), 1);
        x.mode(1);
        due("road(0, 6) by MODE 1", x.road(0, 6), 63);
        due("road(0, 7) by MODE 1", x.road(0, 7), 66);
        x.mode(2);
        due("road(0, 6) by MODE 2", x.road(0, 6), 26);
        due("road(0, 7) by MODE 2", x.road(0, 7), 32);
        due("road(2, 0)", x.road(2, 0), UNKNOWN);
        due("road(-1, 9)", x.road(-1, 9), UNKNOWN);
        due("road(1, 8)", x.road(1, 8), OUTSIDE);
        due("road(1, -1)", x.road(1, -1), OUTSIDE);
        SelfishWays full = on("2;0>1:20+9");
        for (int i = 0; i < 5; i++) {
            full.player(0, 1);
        }
        full.mode(2);
        due("road(0, 7) behind five", full.road(0, 7), 20 + 9 * 6 + 9 * 5);
    }

    private void puts() {
        SelfishWays x = on("2;0>1:17+3;0>1:1+1");
        due("put(0, 0, 20)", x.put(0, 0, 20), 17);
        due("put(0, 0, 0)", x.put(0, 0, 0), 20);
        due("put(0, 1, 9)", x.put(0, 1, 9), 3);
        due("put(0, 1, 0)", x.put(0, 1, 0), 9);
        due("put(0, 2, 40)", x.put(0, 2, 40), 0);
        due("put(0, 2, 1)", x.put(0, 2, 1), 40);
        due("put(0, 0, 21)", x.put(0, 0, 21), OUTSIDE);
        due("put(0, 0, -1)", x.put(0, 0, -1), OUTSIDE);
        due("put(0, 1, 10)", x.put(0, 1, 10), OUTSIDE);
        due("put(0, 2, 41)", x.put(0, 2, 41), OUTSIDE);
        due("put(0, 3, 0)", x.put(0, 3, 0), OUTSIDE);
        due("put(0, -1, 0)", x.put(0, -1, 0), OUTSIDE);
        due("put(2, 3, 0)", x.put(2, 3, 0), UNKNOWN);
        due("put(-1, 0, 0)", x.put(-1, 0, 0), UNKNOWN);
        due("road(0, 2)", x.road(0, 2), 0);
        due("road(0, 3)", x.road(0, 3), 0);
        due("road(0, 4)", x.road(0, 4), 1);
        due("road(1, 2)", x.road(1, 2), 1);
        SelfishWays four = four();
        four.put(0, 0, 20);
        dueSet("put() moves nobody", four, 0, 0, 0, 0);
        due("who(0, 4) behind put()", four.who(0, 4), 24);
    }

    private void modes() {
        SelfishWays x = four();
        due("mode(2)", x.mode(2), 0);
        due("mode(1)", x.mode(1), 2);
        due("mode(3)", x.mode(3), OUTSIDE);
        due("mode(-1)", x.mode(-1), OUTSIDE);
        due("mode(0)", x.mode(0), 1);
        SelfishWays early = new SelfishWays();
        due("mode(2) with no net", early.mode(2), 0);
        type(early, TWO_ROADS);
        early.net();
        due("about(2)", early.about(2), 2);
        due("road(0, 7)", early.road(0, 7), 1);
        early.player(0, 1);
        due("road(0, 7) by MODE 2 set ahead of the net", early.road(0, 7), 3);
    }

    // ---- promises 10 to 13

    private void playersCome() {
        SelfishWays x = on(TWO_ROADS);
        int[] ways = {0, 0, 0, 0, 1};
        for (int i = 0; i < 5; i++) {
            due("player(0, 1)", x.player(0, 1), i);
            due("who(" + i + ", 3)", x.who(i, 3), ways[i]);
        }
        due("player(0, 1), the sixth", x.player(0, 1), FULL);
        due("player(1, 0), the sixth", x.player(1, 0), FULL);
        due("player(0, 2), the sixth", x.player(0, 2), UNKNOWN);
        due("count(5)", x.count(5), 5);
        SelfishWays one = on(TWO_ROADS);
        due("player(1, 0): no way", one.player(1, 0), STATE);
        due("player(1, 1)", one.player(1, 1), UNKNOWN);
        due("player(-1, 0)", one.player(-1, 0), UNKNOWN);
        due("player(0, -1)", one.player(0, -1), UNKNOWN);
        due("player(2, 0)", one.player(2, 0), UNKNOWN);
        due("count(1)", one.count(1), 0);
        due("count(5)", one.count(5), 0);
        due("about(7)", one.about(7), 0);
        SelfishWays many = on("3" + ";0>1:0+1".repeat(4) + ";1>2:0+1".repeat(4));
        due("player(0, 2): 16 ways", many.player(0, 2), STATE);
        due("about(7): nobody came", many.about(7), 0);
        due("player(0, 1): 4 ways", many.player(0, 1), 0);
        SelfishWays twelve = on("3" + ";0>1:0+1".repeat(3) + ";1>2:0+1".repeat(4));
        due("player(0, 2): 12 ways", twelve.player(0, 2), 0);
        due("who(0, 2)", twelve.who(0, 2), 12);
        SelfishWays thirteen = on("3" + ";0>1:0+1".repeat(3) + ";1>2:0+1".repeat(4) + ";0>2:0+0");
        due("player(0, 2): 13 ways", thirteen.player(0, 2), STATE);
        SelfishWays tolls = on(TWO_ROADS);
        tolls.put(0, 2, 4);
        tolls.mode(1);
        tolls.player(0, 1);
        due("who(0, 3): by its pay with tolls", tolls.who(0, 3), 1);
    }

    private void playersGo() {
        SelfishWays x = four();
        due("drop()", x.drop(), 3);
        due("road(0, 5)", x.road(0, 5), 3);
        due("about(6)", x.about(6), 8);
        due("who(3, 0)", x.who(3, 0), UNKNOWN);
        due("drop()", x.drop(), 2);
        due("drop()", x.drop(), 1);
        due("drop()", x.drop(), 0);
        due("drop()", x.drop(), STATE);
        due("about(7)", x.about(7), 0);
        due("player(0, 1)", x.player(0, 1), 0);
        due("count(5)", x.count(5), 5);
        x.put(0, 1, 0);
        x.put(0, 0, 4);
        x.set(0, 1);
        x.drop();
        x.player(0, 1);
        due("who(0, 3): of several the first, whatever the one ahead took", x.who(0, 3), 0);
        type(x, "3;0>1:0+1;1>2:0+2;0>2:9+0");
        x.net();
        x.player(0, 2);
        x.player(0, 1);
        due("pay(0, 0) on another net", x.pay(0, 0), 9);
        due("pay(0, 1) on another net", x.pay(0, 1), 4);
        due("pay(1, 0) on another net", x.pay(1, 0), 2);
        type(x, "3;1>2:0+1;0>2:0+1;0>1:0+1");
        x.net();
        x.player(0, 2);
        due("pay(0, 0) on a third net", x.pay(0, 0), 1);
        due("pay(0, 1) on a third net", x.pay(0, 1), 2);
    }

    private void whoTheyAre() {
        SelfishWays x = on(BRAESS);
        x.player(0, 3);
        int[] alone = {0, 3, 3, 2, 9, 2, 9};
        for (int what = 0; what <= 6; what++) {
            due("who(0, " + what + ")", x.who(0, what), alone[what]);
        }
        x.player(1, 3);
        x.set(0, 1);
        int[] then = {0, 3, 3, 1, 28, 2, 13};
        for (int what = 0; what <= 6; what++) {
            due("who(0, " + what + ") by its second way", x.who(0, what), then[what]);
        }
        due("who(1, 0)", x.who(1, 0), 1);
        due("who(2, 0)", x.who(2, 0), UNKNOWN);
        due("who(-1, 9)", x.who(-1, 9), UNKNOWN);
        due("who(0, 7)", x.who(0, 7), OUTSIDE);
        due("who(0, -1)", x.who(0, -1), OUTSIDE);
        SelfishWays equal = on("2;0>1:3+0;0>1:2+0;0>1:2+0");
        equal.player(0, 1);
        due("who(0, 3): the first of several", equal.who(0, 3), 1);
        equal.set(0, 2);
        due("who(0, 5): what it takes, if none is less", equal.who(0, 5), 2);
        equal.set(0, 0);
        due("who(0, 5): the first of the least", equal.who(0, 5), 1);
        due("who(0, 6)", equal.who(0, 6), 2);
    }

    private void dueWay(SelfishWays x, int player, int way, int... roads) {
        for (int place = 0; place < roads.length; place++) {
            due("way(" + player + ", " + way + ", " + place + ")", x.way(player, way, place), roads[place]);
        }
        due("way() behind its end", x.way(player, way, roads.length), UNKNOWN);
        due("way() ahead of its start", x.way(player, way, -1), UNKNOWN);
    }

    private void waysInOrder() {
        SelfishWays x = on("4;2>3:1+1;0>1:1+1;1>2:1+1;0>3:1+1;1>3:1+1;2>1:1+1;0>2:1+1;3>0:1+1;0>3:1+1");
        due("player(0, 3)", x.player(0, 3), 0);
        due("who(0, 2)", x.who(0, 2), 6);
        dueWay(x, 0, 0, 3);
        dueWay(x, 0, 1, 8);
        dueWay(x, 0, 2, 1, 4);
        dueWay(x, 0, 3, 6, 0);
        dueWay(x, 0, 4, 1, 2, 0);
        dueWay(x, 0, 5, 6, 5, 4);
        due("way(0, 6, 0)", x.way(0, 6, 0), UNKNOWN);
        due("way(0, -1, 0)", x.way(0, -1, 0), UNKNOWN);
        due("way(1, 0, 0)", x.way(1, 0, 0), UNKNOWN);
        due("way(-1, 0, 0)", x.way(-1, 0, 0), UNKNOWN);
        SelfishWays longest = on("6;0>1:1+1;1>2:1+1;2>3:1+1;3>4:1+1;4>5:1+1");
        longest.player(0, 5);
        dueWay(longest, 0, 0, 0, 1, 2, 3, 4);
    }

    // ---- promises 14 to 17

    private void paysAndSets() {
        SelfishWays x = on(BRAESS);
        x.player(0, 3);
        x.player(0, 3);
        dueSet("player()", x, 2, 2);
        due("pay(0, 0)", x.pay(0, 0), 28);
        due("pay(0, 1)", x.pay(0, 1), 28);
        due("pay(0, 2)", x.pay(0, 2), 17);
        due("pay(0, 3)", x.pay(0, 3), UNKNOWN);
        due("pay(0, -1)", x.pay(0, -1), UNKNOWN);
        due("pay(2, 0)", x.pay(2, 0), UNKNOWN);
        due("set(0, 1)", x.set(0, 1), 2);
        due("set(0, 1) again", x.set(0, 1), 1);
        due("pay(0, 0): road 0 has the other one", x.pay(0, 0), 28);
        due("pay(1, 2)", x.pay(1, 2), 4 + 1 + 8);
        due("pay(1, 0)", x.pay(1, 0), 24);
        due("road(0, 5)", x.road(0, 5), 1);
        due("road(3, 5)", x.road(3, 5), 2);
        due("set(0, 3)", x.set(0, 3), UNKNOWN);
        due("set(2, 0)", x.set(2, 0), UNKNOWN);
        due("set(-1, 0)", x.set(-1, 0), UNKNOWN);
        x.mode(2);
        due("pay(1, 2) by MODE 2", x.pay(1, 2), 4 + 1 + 12);
        x.mode(1);
        x.put(4, 2, 30);
        due("pay(1, 2) by MODE 1", x.pay(1, 2), 4 + 31 + 8);
    }

    private void turns() {
        SelfishWays x = four();
        due("turn() at rest", x.turn(), NONE);
        takeAll(x, 1, 1, 1, 1);
        due("turn()", x.turn(), 0);
        dueSet("turn()", x, 0, 1, 1, 1);
        due("turn()", x.turn(), 1);
        due("turn()", x.turn(), 2);
        dueSet("turn()", x, 0, 0, 0, 1);
        due("turn(): as dear is no reason", x.turn(), NONE);
        due("count(6)", x.count(6), 3);
        takeAll(x, 1, 1, 1, 1);
        due("run(2)", x.run(2), 2);
        dueSet("run(2)", x, 0, 0, 1, 1);
        due("run(60)", x.run(60), 1);
        due("run(1)", x.run(1), 0);
        due("count(6)", x.count(6), 6);
        due("run(0)", x.run(0), OUTSIDE);
        due("run(61)", x.run(61), OUTSIDE);
        due("run(-5)", x.run(-5), OUTSIDE);
        SelfishWays empty = on(TWO_ROADS);
        due("turn() with nobody", empty.turn(), NONE);
        due("run(60) with nobody", empty.run(60), 0);
        SelfishWays leap = on("2;0>1:9+0;0>1:5+0;0>1:3+0;0>1:3+0");
        leap.player(0, 1);
        leap.set(0, 0);
        due("turn(): to the best, not the next", leap.turn(), 0);
        dueSet("turn()", leap, 2);
    }

    // ---- promises 18 to 23

    private void dueRests(SelfishWays x, String when, int... want) {
        for (int what = 0; what <= 5; what++) {
            due("rests(" + what + ") " + when, x.rests(what), want[what]);
        }
    }

    private void duePrice(SelfishWays x, String when, int... want) {
        for (int what = 0; what <= 3; what++) {
            due("price(" + what + ") " + when, x.price(what), want[what]);
        }
    }

    private void allSets() {
        SelfishWays x = four();
        takeAll(x, 1, 0, 1, 0);
        dueRests(x, "of four", 5, 13, 16, 12, 10, 6);
        duePrice(x, "of four", 4, 3, 13, 12);
        dueSet("rests() changes nothing", x, 1, 0, 1, 0);
        int[][] rest = {{0, 0, 0, 0}, {0, 0, 0, 1}, {0, 0, 1, 0}, {0, 1, 0, 0}, {1, 0, 0, 0}};
        for (int place = 0; place < 5; place++) {
            for (int player = 0; player < 4; player++) {
                due("rest(" + place + ", " + player + ")", x.rest(place, player), rest[place][player]);
            }
        }
        due("rest(5, 0)", x.rest(5, 0), UNKNOWN);
        due("rest(-1, 0)", x.rest(-1, 0), UNKNOWN);
        due("rest(0, 4)", x.rest(0, 4), UNKNOWN);
        due("rest(0, -1)", x.rest(0, -1), UNKNOWN);
        due("go(4)", x.go(4), 13);
        dueSet("go(4)", x, 1, 0, 0, 0);
        due("go(0)", x.go(0), 16);
        dueSet("go(0)", x, 0, 0, 0, 0);
        due("go(5)", x.go(5), UNKNOWN);
        due("go(-1)", x.go(-1), UNKNOWN);
        due("best()", x.best(), 12);
        dueSet("best(): the first of several", x, 0, 0, 1, 1);
        due("road(0, 5) behind best()", x.road(0, 5), 2);
        due("count(6): no turns", x.count(6), 0);
        due("rests(6)", x.rests(6), OUTSIDE);
        due("rests(-1)", x.rests(-1), OUTSIDE);
        due("price(4)", x.price(4), OUTSIDE);
        due("price(-1)", x.price(-1), OUTSIDE);
        due("reach(3)", x.reach(3), OUTSIDE);
        due("reach(-1)", x.reach(-1), OUTSIDE);
    }

    private void allSetsByTolls() {
        SelfishWays x = four();
        dueRests(x, "at first", 5, 13, 16, 12, 10, 6);
        x.mode(2);
        dueRests(x, "by MODE 2", 6, 12, 12, 12, 1 + 3 + 8, 6);
        duePrice(x, "by MODE 2", 1, 1, 1, 1);
        x.mode(1);
        dueRests(x, "by MODE 1 without T", 5, 13, 16, 12, 10, 6);
        x.put(0, 2, 1);
        dueRests(x, "by MODE 1", 10, 12, 13, 12, 2 + 3 + 8, 6);
        duePrice(x, "by MODE 1", 13, 12, 1, 1);
        x.drop();
        x.mode(0);
        // with k of three on the first road SOCIAL is 12, 9, 8, 9, and only all three are at rest
        dueRests(x, "of three", 1, 9, 9, 8, 6, 3);
        x.put(1, 0, 1);
        dueRests(x, "with a cheaper road", 4, 3, 3, 3, 3, 4);
        x.player(0, 1);
        dueRests(x, "with one more", 5, 4, 4, 4, 4, 5);
    }

    private void allSetsAnew() {
        SelfishWays x = four();
        x.best();
        dueRests(x, "of four", 5, 13, 16, 12, 10, 6);
        x.drop();
        dueRests(x, "of three behind drop()", 1, 9, 9, 8, 6, 3);
        type(x, "2;0>1:2+3;0>1:20+9");
        x.net();
        x.player(0, 1);
        x.set(0, 1);
        dueReach(x, "on another net", 2, 1, 1);
        dueRests(x, "on another net", 1, 5, 5, 5, 5, 1);
        due("best(): the first of all", x.best(), 5);
        dueSet("best(): the first of all", x, 0);
        dueReach(x, "behind best()", 1, 1, 0);
        type(x, "2;0>1:2+3");
        x.net();
        due("rests(0) of a net without players", x.rests(0), STATE);
        x.player(0, 1);
        dueRests(x, "of one way", 1, 5, 5, 5, 5, 1);
    }

    private void allSetsRefused() {
        SelfishWays x = on("3" + ";0>1:0+1".repeat(5) + ";1>2:0+1".repeat(4));
        for (int i = 0; i < 3; i++) {
            x.player(0, 1);
        }
        x.player(1, 2);
        due("about(6)", x.about(6), 500);
        due("rests(0) of 500 sets", x.rests(0), 5 * 4 * 3 * 4);
        due("rest(0, 2) of 500 sets", x.rest(0, 2), 2);
        due("rest(239, 0) of 500 sets", x.rest(239, 0), 4);
        due("rest(239, 3) of 500 sets", x.rest(239, 3), 3);
        due("reach(0) of 500 sets", x.reach(0), 1);
        takeAll(x, 0, 0, 0, 0);
        // one of three leaves, then one of the two that are left: 3 x 4, then 3 x 4 x 3 / 1 sets
        due("reach(0) from all on one road", x.reach(0), 1 + 3 * 4 + 3 * 4 * 3);
        due("reach(1) from all on one road", x.reach(1), 3 * 4 * 3);
        due("reach(2) from all on one road", x.reach(2), 2);
        x.drop();
        x.player(0, 1);
        due("about(6)", x.about(6), 625);
        due("rests(0) of 625 sets", x.rests(0), STATE);
        due("rests(6) of 625 sets", x.rests(6), OUTSIDE);
        due("rest(-1, -1) of 625 sets", x.rest(-1, -1), STATE);
        due("go(-1) of 625 sets", x.go(-1), STATE);
        due("best() of 625 sets", x.best(), STATE);
        due("price(0) of 625 sets", x.price(0), STATE);
        due("price(4) of 625 sets", x.price(4), OUTSIDE);
        due("reach(0) of 625 sets", x.reach(0), STATE);
        due("reach(3) of 625 sets", x.reach(3), OUTSIDE);
        due("lead(0, 0) of 625 sets", x.lead(0, 0), 1);
        SelfishWays empty = on(TWO_ROADS);
        due("rests(0) with nobody", empty.rests(0), STATE);
        due("rest(0, 0) with nobody", empty.rest(0, 0), STATE);
        due("go(0) with nobody", empty.go(0), STATE);
        due("best() with nobody", empty.best(), STATE);
        due("price(0) with nobody", empty.price(0), STATE);
        due("reach(0) with nobody", empty.reach(0), STATE);
    }

    private void pricesByNothing() {
        SelfishWays x = on("2;0>1:0+0;0>1:5+0");
        x.player(0, 1);
        x.player(0, 1);
        duePrice(x, "of 0 by 0", 1, 1, 1, 1);
        // By tolls the dear road is as cheap as the free one: rest with SOCIAL 0, 5 and 10.
        x.put(0, 2, 5);
        x.mode(1);
        dueRests(x, "by tolls", 4, 0, 10, 0, 10, 1);
        duePrice(x, "of 10 by 0", 1, 0, 1, 1);
        x.put(0, 2, 6);
        duePrice(x, "of 10 by 0, all", 1, 0, 1, 0);
        SelfishWays alone = on("2;0>1:3+1");
        alone.player(0, 1);
        duePrice(alone, "of one way", 1, 1, 1, 1);
    }

    private void dueReach(SelfishWays x, String when, int... want) {
        for (int what = 0; what <= 2; what++) {
            due("reach(" + what + ") " + when, x.reach(what), want[what]);
        }
    }

    private void reached() {
        SelfishWays x = four();
        dueReach(x, "at rest", 1, 1, 0);
        takeAll(x, 0, 0, 1, 1);
        dueReach(x, "from 0011", 3, 2, 1);
        takeAll(x, 1, 1, 1, 1);
        dueReach(x, "from 1111", 15, 4, 3);
        dueSet("reach() changes nothing", x, 1, 1, 1, 1);
        x.mode(2);
        dueReach(x, "from 1111 by MODE 2", 11, 6, 2);
        // Any way of lesser pay will do, not the best alone: four steps down instead of one.
        SelfishWays stairs = on("2;0>1:9+0;0>1:7+0;0>1:5+0;0>1:5+0;0>1:1+0");
        stairs.player(0, 1);
        stairs.set(0, 0);
        dueReach(stairs, "down the stairs", 5, 1, 3);
        stairs.put(3, 0, 4);
        dueReach(stairs, "down one stair more", 5, 1, 4);
        stairs.set(0, 3);
        dueReach(stairs, "from further down", 2, 1, 1);
    }

    // ---- promises 24 to 26

    private void leading() {
        SelfishWays x = on("2;0>1:0+3;0>1:1+3");
        x.player(0, 1);
        x.player(0, 1);
        dueSet("player()", x, 0, 1);
        due("lead(1, 0): the other one gives way", x.lead(1, 0), 3);
        due("lead(1, 1)", x.lead(1, 1), 4);
        due("lead(0, 0)", x.lead(0, 0), 3);
        due("lead(0, 1)", x.lead(0, 1), 4);
        dueSet("lead() changes nothing", x, 0, 1);
        due("road(0, 5) behind lead()", x.road(0, 5), 1);
        due("leads(1)", x.leads(1), 0);
        dueSet("leads() changes nothing", x, 0, 1);
        due("follow(1)", x.follow(1), 3);
        dueSet("follow(1)", x, 1, 0);
        due("road(0, 5) behind follow()", x.road(0, 5), 1);
        due("about(5)", x.about(5), 1);
        due("count(6): these are no turns", x.count(6), 0);
        due("lead(2, 0)", x.lead(2, 0), UNKNOWN);
        due("lead(0, 2)", x.lead(0, 2), UNKNOWN);
        due("lead(0, -1)", x.lead(0, -1), UNKNOWN);
        due("lead(-1, 0)", x.lead(-1, 0), UNKNOWN);
        due("leads(2)", x.leads(2), UNKNOWN);
        due("leads(-1)", x.leads(-1), UNKNOWN);
        due("follow(2)", x.follow(2), UNKNOWN);
        due("follow(-1)", x.follow(-1), UNKNOWN);
        SelfishWays four = four();
        takeAll(four, 1, 1, 1, 1);
        due("lead(3, 1): it stays", four.lead(3, 1), 4);
        due("lead(3, 0): the others come up to four", four.lead(3, 0), 3);
        due("lead(0, 0)", four.lead(0, 0), 3);
        due("leads(0)", four.leads(0), 0);
        due("follow(0)", four.follow(0), 3);
        dueSet("follow(0): the least move first", four, 0, 0, 0, 1);
        SelfishWays equal = on("2;0>1:5+0;0>1:4+0;0>1:4+0");
        equal.player(0, 1);
        equal.set(0, 2);
        due("leads(0): of several the first", equal.leads(0), 1);
    }

    // ---- promises 27 to 34

    private void lanesCome() {
        SelfishWays x = new SelfishWays();
        due("lane(-1, 1)", x.lane(-1, 1), OUTSIDE);
        due("lane(21, 1)", x.lane(21, 1), OUTSIDE);
        due("lane(0, 0)", x.lane(0, 0), OUTSIDE);
        due("lane(0, 3)", x.lane(0, 3), OUTSIDE);
        due("lane(0, 5)", x.lane(0, 5), OUTSIDE);
        due("lane(0, 8)", x.lane(0, 8), OUTSIDE);
        due("lane(20, 4)", x.lane(20, 4), 0);
        due("lane(0, 2)", x.lane(0, 2), 1);
        due("lane(0, 1)", x.lane(0, 1), 2);
        due("lane(1, 1)", x.lane(1, 1), 3);
        due("lane(1, 1)", x.lane(1, 1), 4);
        due("lane(1, 1), the sixth", x.lane(1, 1), FULL);
        due("lane(1, 3), the sixth", x.lane(1, 3), OUTSIDE);
        due("count(2)", x.count(2), 5);
        due("stream(40)", x.stream(40), 12);
        due("stream(0)", x.stream(0), OUTSIDE);
        due("stream(41)", x.stream(41), OUTSIDE);
        due("stream(1)", x.stream(1), 40);
        due("share(0)", x.share(0), 5);
        due("share(-1)", x.share(-1), OUTSIDE);
        due("share(11)", x.share(11), OUTSIDE);
        due("share(10)", x.share(10), 0);
        due("clear()", x.clear(), 5);
        due("count(2)", x.count(2), 0);
        due("flow(0, 0, 0)", x.flow(0, 0, 0), UNKNOWN);
        due("level(0)", x.level(0), STATE);
        due("clear()", x.clear(), 0);
        due("lane(0, 1)", x.lane(0, 1), 0);
        due("stream(2): clear() leaves it", x.stream(2), 1);
        due("share(2): clear() leaves it", x.share(2), 10);
    }

    /** Lanes of X and of 6 and X: 12 part even to 9 and 3, wise to 7.5 and 4.5. */
    private static SelfishWays twoLanes() {
        SelfishWays x = new SelfishWays();
        x.lane(0, 1);
        x.lane(6, 1);
        return x;
    }

    private void streamParts() {
        SelfishWays x = twoLanes();
        dueFlow(x, 0, 0, 9, 1);
        dueFlow(x, 0, 1, 3, 1);
        dueFlow(x, 1, 0, 15, 2);
        dueFlow(x, 1, 1, 9, 2);
        due("level(0)", x.level(0), 9);
        due("level(1)", x.level(1), 1);
        due("total(0)", x.total(0), 108000);
        due("total(1)", x.total(1), 103500);
        due("worse(0)", x.worse(0), 10434);
        due("worse(1)", x.worse(1), 10000);
        x.stream(6);
        dueFlow(x, 0, 0, 6, 1);
        dueFlow(x, 0, 1, 0, 1);
        due("level(0): even with the other ground", x.level(0), 6);
        dueFlow(x, 1, 0, 9, 2);
        dueFlow(x, 1, 1, 3, 2);
        x.stream(3);
        dueFlow(x, 0, 1, 0, 1);
        dueFlow(x, 1, 0, 3, 1);
        dueFlow(x, 1, 1, 0, 1);
        dueFlow(x, 2, 1, 0, 1);
        dueFlow(x, 3, 0, 3, 2);
        dueFlow(x, 3, 1, 0, 1);
        due("level(0)", x.level(0), 3);
        due("worse(0): even is wise", x.worse(0), 10000);
        x.stream(2);
        dueFlow(x, 3, 0, 1, 1);
        dueFlow(x, 3, 1, 0, 1);
        dueFlow(x, 2, 0, 2, 1);
        due("flow(0, 2, 0)", x.flow(0, 2, 0), UNKNOWN);
        due("flow(9, -1, 9)", x.flow(9, -1, 9), UNKNOWN);
        due("flow(4, 0, 0)", x.flow(4, 0, 0), OUTSIDE);
        due("flow(-1, 0, 0)", x.flow(-1, 0, 0), OUTSIDE);
        due("flow(0, 0, 2)", x.flow(0, 0, 2), OUTSIDE);
        due("flow(0, 0, -1)", x.flow(0, 0, -1), OUTSIDE);
        due("level(2)", x.level(2), OUTSIDE);
        due("level(-1)", x.level(-1), OUTSIDE);
        due("total(3)", x.total(3), OUTSIDE);
        due("total(-1)", x.total(-1), OUTSIDE);
        due("worse(3)", x.worse(3), OUTSIDE);
        due("worse(-1)", x.worse(-1), OUTSIDE);
        SelfishWays steep = new SelfishWays();
        steep.lane(0, 1);
        steep.lane(0, 2);
        steep.lane(0, 4);
        steep.stream(7);
        dueFlow(steep, 0, 0, 4, 1);
        dueFlow(steep, 0, 1, 2, 1);
        dueFlow(steep, 0, 2, 1, 1);
        dueFlow(steep, 1, 2, 1, 1);
        due("level(0) of 1, 2, 4", steep.level(0), 4);
        due("total(0) of 1, 2, 4", steep.total(0), 28000);
    }

    private void leaderFills() {
        SelfishWays x = twoLanes();
        dueFlow(x, 3, 0, 3, 2);
        dueFlow(x, 3, 1, 9, 2);
        dueFlow(x, 2, 0, 15, 2);
        dueFlow(x, 2, 1, 9, 2);
        due("worse(2) by 5", x.worse(2), 10000);
        x.share(0);
        dueFlow(x, 3, 0, 0, 1);
        dueFlow(x, 3, 1, 0, 1);
        dueFlow(x, 2, 0, 9, 1);
        due("total(2) by 0", x.total(2), 108000);
        x.share(2);
        dueFlow(x, 3, 0, 0, 1);
        dueFlow(x, 3, 1, 12, 5);
        dueFlow(x, 2, 0, 9, 1);
        dueFlow(x, 2, 1, 3, 1);
        x.share(3);
        dueFlow(x, 3, 1, 18, 5);
        dueFlow(x, 2, 0, 42, 5);
        dueFlow(x, 2, 1, 18, 5);
        due("total(2) by 3", x.total(2), 105120);
        due("worse(2) by 3", x.worse(2), 10156);
        x.share(4);
        dueFlow(x, 3, 0, 3, 10);
        dueFlow(x, 3, 1, 9, 2);
        dueFlow(x, 2, 0, 15, 2);
        x.share(10);
        dueFlow(x, 3, 0, 15, 2);
        dueFlow(x, 3, 1, 9, 2);
        dueFlow(x, 2, 0, 15, 2);
        dueFlow(x, 0, 0, 9, 1);
        SelfishWays equal = new SelfishWays();
        equal.lane(3, 2);
        equal.lane(3, 2);
        dueFlow(equal, 3, 0, 6, 1);
        dueFlow(equal, 3, 1, 0, 1);
        dueFlow(equal, 2, 1, 6, 1);
        // The first one costs 9 by wise, the second one 8.
        SelfishWays dear = new SelfishWays();
        dear.lane(7, 2);
        dear.lane(5, 1);
        dear.stream(4);
        dear.share(1);
        dueFlow(dear, 1, 0, 1, 1);
        dueFlow(dear, 1, 1, 3, 1);
        dueFlow(dear, 3, 0, 2, 5);
        dueFlow(dear, 3, 1, 0, 1);
        // The first one has more and costs 11.7 by wise, the second one 12.2.
        SelfishWays steep = new SelfishWays();
        steep.lane(2, 1);
        steep.lane(3, 4);
        steep.share(1);
        dueFlow(steep, 1, 1, 23, 10);
        dueFlow(steep, 3, 0, 0, 1);
        dueFlow(steep, 3, 1, 6, 5);
    }

    private void lanesAnew() {
        SelfishWays x = new SelfishWays();
        x.lane(6, 2);
        due("total(0) of one lane", x.total(0), 12 * 30 * 1000);
        dueFlow(x, 0, 0, 12, 1);
        dueFlow(x, 1, 0, 12, 1);
        dueFlow(x, 2, 0, 12, 1);
        dueFlow(x, 3, 0, 6, 1);
        due("level(0) of one lane", x.level(0), 30);
        dueDigest("with one lane", x, "");
        x.stream(1);
        due("level(0) of 1", x.level(0), 8);
        x.lane(0, 1);
        due("level(0) with a free one", x.level(0), 1);
        x.stream(40);
        due("level(0) of 40", x.level(0), 86);
        x.stream(1);
        dueFlow(x, 0, 0, 0, 1);
        dueFlow(x, 0, 1, 1, 1);
        dueFlow(x, 1, 0, 0, 1);
        dueFlow(x, 3, 0, 0, 1);
        dueFlow(x, 3, 1, 1, 2);
        x.stream(12);
        due("worse(2)", x.worse(2), 10000L * x.total(2) / x.total(1));
        x.share(0);
        due("worse(2) without a share", x.worse(2), x.worse(0));
        x.clear();
        x.lane(1, 1);
        due("worse(0) behind clear()", x.worse(0), 10000);
        due("total(0) behind clear()", x.total(0), 12 * 13 * 1000);
    }

    private void roundedDown() {
        SelfishWays x = new SelfishWays();
        x.lane(0, 1);
        x.lane(0, 2);
        x.stream(1);
        dueFlow(x, 0, 0, 2, 3);
        dueFlow(x, 0, 1, 1, 3);
        due("level(0)", x.level(0), 2);
        due("level(1)", x.level(1), 3);
        due("total(0): 666 and two thirds", x.total(0), 666);
        SelfishWays least = new SelfishWays();
        for (int i = 0; i < 5; i++) {
            least.lane(0, 1);
        }
        least.stream(1);
        due("total(1), the least there is", least.total(1), 200);
        // 1000 by 916, as total() tells them; by 11/12 it would be 10909.
        SelfishWays told = new SelfishWays();
        told.lane(0, 1);
        told.lane(1, 2);
        told.stream(1);
        due("total(0)", told.total(0), 1000);
        due("total(1): 916 and two thirds", told.total(1), 916);
        due("worse(0) by what total() tells", told.worse(0), 10917);
    }

    // ---- promises 35 and 36

    private void counts() {
        SelfishWays x = four();
        takeAll(x, 1, 1, 1, 1);
        x.turn();
        x.run(60);
        x.turn();
        x.lane(1, 1);
        x.letter(65);
        x.letter(66);
        x.drop();
        int[] want = {2, 3, 1, 2, 1, 4, 3};
        for (int what = 0; what <= 6; what++) {
            due("count(" + what + ")", x.count(what), want[what]);
        }
        due("count(7)", x.count(7), OUTSIDE);
        due("count(-1)", x.count(-1), OUTSIDE);
        x.turn();
        x.player(1, 0);
        x.net();
        due("count(4): refused", x.count(4), 1);
        due("count(5): refused", x.count(5), 4);
    }

    private static void tellNet(SelfishWays x, List<Integer> told) {
        for (int what = 0; what <= 7; what++) {
            told.add(x.about(what));
        }
        for (int road = 0; road < x.about(1); road++) {
            for (int what = 0; what <= 7; what++) {
                told.add(x.road(road, what));
            }
        }
        for (int player = 0; player < x.count(1); player++) {
            for (int what = 0; what <= 6; what++) {
                told.add(x.who(player, what));
            }
            for (int way = 0; way < x.who(player, 2); way++) {
                told.add(x.pay(player, way));
            }
            int taken = x.who(player, 3);
            for (int place = 0; x.way(player, taken, place) != UNKNOWN; place++) {
                told.add(x.way(player, taken, place));
            }
        }
    }

    private static void tellSets(SelfishWays x, List<Integer> told) {
        if (x.rests(0) != STATE) {
            for (int what = 0; what <= 5; what++) {
                told.add(x.rests(what));
            }
            for (int what = 0; what <= 3; what++) {
                told.add(x.price(what));
            }
            for (int what = 0; what <= 2; what++) {
                told.add(x.reach(what));
            }
        }
        for (int player = 0; player < x.count(1); player++) {
            for (int way = 0; way < x.who(player, 2); way++) {
                told.add(x.lead(player, way));
            }
        }
    }

    private static void tellLanes(SelfishWays x, List<Integer> told) {
        for (int lane = 0; lane < x.count(2); lane++) {
            for (int kind = 0; kind <= 3; kind++) {
                told.add(x.flow(kind, lane, 0));
                told.add(x.flow(kind, lane, 1));
            }
        }
        if (x.count(2) > 0) {
            told.add(x.level(0));
            told.add(x.level(1));
            for (int kind = 0; kind <= 2; kind++) {
                told.add(x.total(kind));
            }
        }
    }

    private void dueDigest(String when, SelfishWays x, String page) {
        List<Integer> told = new ArrayList<>();
        if (x.count(0) > 0) {
            tellNet(x, told);
        }
        tellSets(x, told);
        tellLanes(x, told);
        for (int i = 0; i < page.length(); i++) {
            told.add((int) page.charAt(i));
        }
        for (int what = 0; what <= 6; what++) {
            told.add(x.count(what));
        }
        long h = 1543;
        for (int number : told) {
            h = 31 * h + number;
        }
        due("digest() " + when, x.digest(), h);
        due("digest() " + when + ", again", x.digest(), h);
    }

    private void digests() {
        due("digest() of a new one", new SelfishWays().digest(), 1543L * 31 * 31 * 31 * 31 * 31 * 31 * 31);
        SelfishWays x = new SelfishWays();
        type(x, "2;~");
        dueDigest("with letters", x, "2;~");
        x.lane(3, 2);
        x.lane(9, 4);
        x.lane(20, 1);
        dueDigest("with lanes", x, "2;~");
        dueDigest("with a net", on(BRAESS), "");
        SelfishWays played = on(BRAESS);
        played.player(0, 3);
        played.player(1, 3);
        played.player(0, 2);
        played.set(0, 1);
        type(played, " 9");
        dueDigest("with players", played, " 9");
        played.put(2, 2, 9);
        played.mode(1);
        played.turn();
        played.lane(3, 2);
        dueDigest("with tolls and a lane", played, " 9");
        SelfishWays many = on("3" + ";0>1:0+1".repeat(5) + ";1>2:0+1".repeat(4));
        for (int i = 0; i < 5; i++) {
            many.player(0, 1);
        }
        dueDigest("with too many sets", many, "");
    }

    private void extremes() {
        int[] odd = {Integer.MIN_VALUE, Integer.MIN_VALUE + 1, -1, 13, 1000, Integer.MAX_VALUE};
        SelfishWays x = four();
        x.lane(0, 1);
        long before = x.digest();
        for (int v : odd) {
            due("letter(" + v + ")", x.letter(v), OUTSIDE);
            due("about(" + v + ")", x.about(v), OUTSIDE);
            due("road(" + v + ", 0)", x.road(v, 0), UNKNOWN);
            due("road(0, " + v + ")", x.road(0, v), OUTSIDE);
            due("put(0, " + v + ", 0)", x.put(0, v, 0), OUTSIDE);
            due("player(0, " + v + ")", x.player(0, v), UNKNOWN);
            due("who(" + v + ", 0)", x.who(v, 0), UNKNOWN);
            due("who(0, " + v + ")", x.who(0, v), OUTSIDE);
            due("way(0, 0, " + v + ")", x.way(0, 0, v), UNKNOWN);
            due("way(0, " + v + ", 0)", x.way(0, v, 0), UNKNOWN);
            due("pay(0, " + v + ")", x.pay(0, v), UNKNOWN);
            due("set(0, " + v + ")", x.set(0, v), UNKNOWN);
            due("rests(" + v + ")", x.rests(v), OUTSIDE);
            due("rest(" + v + ", 0)", x.rest(v, 0), UNKNOWN);
            due("rest(0, " + v + ")", x.rest(0, v), UNKNOWN);
            due("go(" + v + ")", x.go(v), UNKNOWN);
            due("price(" + v + ")", x.price(v), OUTSIDE);
            due("reach(" + v + ")", x.reach(v), OUTSIDE);
            due("lead(0, " + v + ")", x.lead(0, v), UNKNOWN);
            due("leads(" + v + ")", x.leads(v), UNKNOWN);
            due("follow(" + v + ")", x.follow(v), UNKNOWN);
            due("lane(0, " + v + ")", x.lane(0, v), OUTSIDE);
            due("flow(0, " + v + ", 0)", x.flow(0, v, 0), UNKNOWN);
            due("flow(" + v + ", 0, 0)", x.flow(v, 0, 0), OUTSIDE);
            due("level(" + v + ")", x.level(v), OUTSIDE);
            due("total(" + v + ")", x.total(v), OUTSIDE);
            due("worse(" + v + ")", x.worse(v), OUTSIDE);
            due("count(" + v + ")", x.count(v), OUTSIDE);
        }
        due("digest(): refusals change nothing", x.digest(), before);
    }
}
