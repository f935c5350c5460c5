/** Promises 1 to 5: each sentence of theirs that names a boundary. */
public final class TextBoundariesTest extends Boundary {
    private static final String LONGEST_NET = "2" + ";0>1:20+9".repeat(10);
    private static final String DIGITS = "0123456789";

    public static void main(String[] args) {
        TextBoundariesTest test = new TextBoundariesTest();
        test.hold(1, 5,
                test::newHasNoNet, test::newHasNoLanes, test::newHasModeZero,
                test::newHasAnEmptyPage, test::objectsAreApart, test::letterTellsHowMany,
                test::letterOutside, test::letterFull, test::letterOutsideAheadOfFull,
                test::letterOfLastCall, test::blankTellsHowMany, test::blankLeavesTheNet,
                test::faultAtNodes, test::faultAtRoads, test::faultAtA, test::faultAtB,
                test::faultBehindTenRoads, test::faultIsTheFirst, test::faultTellsOnly,
                test::netOfEachSize, test::netWithEachAAndB, test::netOnlyWhole,
                test::netEmptiesThePage, test::netTakesAway, test::netLeaves, test::netRefused);
    }

    // ---- promise 1

    private void newHasNoNet() {
        promise(1, "No NET");
        SelfishWays x = new SelfishWays();
        dueRow("about()", x::about, STATE, STATE, STATE, STATE, STATE, STATE, STATE, STATE);
        dueRow("road(0, )", what -> x.road(0, what), UNKNOWN, UNKNOWN, UNKNOWN, UNKNOWN, UNKNOWN);
        dueRow("put(0, , 0)", what -> x.put(0, what, 0), UNKNOWN, UNKNOWN, UNKNOWN);
        due("player(0, 1)", x.player(0, 1), STATE);
        due("drop()", x.drop(), STATE);
        due("who(0, 0)", x.who(0, 0), UNKNOWN);
        due("way(0, 0, 0)", x.way(0, 0, 0), UNKNOWN);
        due("pay(0, 0)", x.pay(0, 0), UNKNOWN);
        due("set(0, 0)", x.set(0, 0), UNKNOWN);
        due("turn()", x.turn(), STATE);
        due("run(1)", x.run(1), STATE);
        dueRow("rests()", x::rests, STATE, STATE, STATE, STATE, STATE, STATE);
        due("rest(0, 0)", x.rest(0, 0), STATE);
        due("go(0)", x.go(0), STATE);
        due("best()", x.best(), STATE);
        dueRow("price()", x::price, STATE, STATE, STATE, STATE);
        dueRow("reach()", x::reach, STATE, STATE, STATE);
        due("lead(0, 0)", x.lead(0, 0), UNKNOWN);
        due("leads(0)", x.leads(0), UNKNOWN);
        due("follow(0)", x.follow(0), UNKNOWN);
        dueRow("count()", x::count, 0, 0, 0, 0, 0, 0, 0);
        dueAlike("all these refused", x, new SelfishWays());
    }

    private void newHasNoLanes() {
        promise(1, "no LANES");
        SelfishWays x = new SelfishWays();
        dueRow("flow(, 0, 0)", kind -> x.flow(kind, 0, 0), UNKNOWN, UNKNOWN, UNKNOWN, UNKNOWN);
        dueRow("level()", x::level, STATE, STATE);
        dueRow("total()", x::total, STATE, STATE, STATE);
        dueRow("worse()", x::worse, STATE, STATE, STATE);
        due("clear()", x.clear(), 0);
        due("lane(0, 1)", x.lane(0, 1), 0);
    }

    private void newHasModeZero() {
        promise(1, "MODE 0");
        due("mode(1)", new SelfishWays().mode(1), 0);
        due("mode(0)", new SelfishWays().mode(0), 0);
        due("about(2) of a net", on(TWO_ROADS).about(2), 0);
    }

    private void newHasAnEmptyPage() {
        promise(1, "A new object");
        due("blank()", new SelfishWays().blank(), 0);
        due("fault()", new SelfishWays().fault(), 0);
        due("net()", new SelfishWays().net(), STATE);
        due("letter(50)", new SelfishWays().letter(50), 1);
    }

    private void objectsAreApart() {
        promise(1, "A new object");
        SelfishWays early = new SelfishWays();
        furnished();
        dueAlike("an object beside another one", early, new SelfishWays());
        SelfishWays x = furnished();
        SelfishWays late = new SelfishWays();
        late.mode(2);
        type(late, TWO_ROADS);
        late.net();
        dueAlike("another one behind it", x, furnished());
    }

    // ---- promise 2

    private void letterTellsHowMany() {
        promise(2, "how many THE PAGE has");
        SelfishWays x = new SelfishWays();
        for (int n = 1; n <= 92; n++) {
            due("letter(48)", x.letter(48), n);
        }
        due("count(3)", x.count(3), 92);
        x.blank();
        due("letter(48) behind blank()", x.letter(48), 1);
        due("letter(48) behind net()", on(TWO_ROADS).letter(48), 1);
    }

    private void letterOutside() {
        promise(2, "OUTSIDE: code (32 to 126)");
        due("letter(32)", new SelfishWays().letter(32), 1);
        due("letter(126)", new SelfishWays().letter(126), 1);
        for (int code : new int[] {31, 127, 0, -1, 10, 128, 32 + 256, 50 + 65536}) {
            refused("letter(" + code + ")", () -> page("2;"), x -> x.letter(code), OUTSIDE);
        }
        for (int code : FAR) {
            refused("letter(" + code + ")", Boundary::furnished, x -> x.letter(code), OUTSIDE);
        }
    }

    private void letterFull() {
        promise(2, "FULL: above 92");
        due("letter(59), the 92nd", page(LONGEST_NET).letter(59), 92);
        refused("letter(59), the 93rd", () -> page(LONGEST_NET + ";"), x -> x.letter(59), FULL);
        refused("letter(126), the 93rd", () -> page("~".repeat(92)), x -> x.letter(126), FULL);
        SelfishWays x = page("~".repeat(92));
        due("letter(32), the 93rd", x.letter(32), FULL);
        due("letter(32), the 93rd again", x.letter(32), FULL);
        x.blank();
        due("letter(32) behind blank()", x.letter(32), 1);
    }

    private void letterOutsideAheadOfFull() {
        promise(2, "OUTSIDE: code (32 to 126); FULL: above 92");
        refused("letter(31), the 93rd", () -> page("2".repeat(92)), x -> x.letter(31), OUTSIDE);
        refused("letter(127), the 93rd", () -> page("2".repeat(92)), x -> x.letter(127), OUTSIDE);
        due("letter(127), the 92nd", page("2".repeat(91)).letter(127), OUTSIDE);
    }

    private void letterOfLastCall() {
        promise(2, "FULL: above 92");
        SelfishWays x = page("~".repeat(92));
        for (int calls = 93; calls <= 511; calls++) {
            due("letter(65), call " + calls, x.letter(65), FULL);
        }
        due("blank(), call 512", x.blank(), 92);
    }

    // ---- promise 3

    private void blankTellsHowMany() {
        promise(3, "THE PAGE is empty: how many letters it had");
        for (int n : new int[] {0, 1, 2, 91, 92}) {
            SelfishWays x = page("2".repeat(n));
            due("blank() of " + n, x.blank(), n);
            due("count(3) behind it", x.count(3), 0);
            due("fault() behind it", x.fault(), 0);
            due("net() behind it", x.net(), STATE);
            due("blank() again", x.blank(), 0);
        }
        SelfishWays x = page("2;0>1:1+1");
        x.blank();
        type(x, "3");
        due("net() of what came behind it", x.net(), STATE);
        type(x, ";2>1:4+5");
        due("net() of a whole one behind it", x.net(), 1);
        due("about(0)", x.about(0), 3);
        due("blank() behind net()", x.blank(), 0);
    }

    private void blankLeavesTheNet() {
        promise(3, "THE PAGE is empty");
        SelfishWays x = four(1, 0, 1, 0);
        type(x, "77");
        x.blank();
        dueAlike("blank()", x, four(1, 0, 1, 0));
    }

    // ---- promise 4

    /** Behind what stands there, just these letters are ones that a net may have. */
    private void dueNext(String ahead, String good) {
        for (char c = 32; c <= 126; c++) {
            int want = ahead.length() + (good.indexOf(c) >= 0 ? 1 : 0);
            due("fault() of " + ahead + c, page(ahead + c).fault(), want);
        }
    }

    private void faultAtNodes() {
        promise(4, "the first letter of THE PAGE that no NET has there ... A NET has 2 to 6 NODES");
        due("fault() of nothing", page("").fault(), 0);
        dueNext("", "23456");
        for (int nodes = 2; nodes <= 6; nodes++) {
            dueNext("" + nodes, ";");
        }
    }

    private void faultAtRoads() {
        promise(4, "the first letter of THE PAGE that no NET has there ... each FROM a NODE TO another one");
        for (int nodes = 2; nodes <= 6; nodes++) {
            String numbers = DIGITS.substring(0, nodes);
            dueNext(nodes + ";", numbers);
            dueNext(nodes + ";1>0:0+0;", numbers);
            for (int from = 0; from < nodes; from++) {
                dueNext(nodes + ";" + from, ">");
                dueNext(nodes + ";" + from + ">", numbers.replace("" + from, ""));
            }
        }
        dueNext("2;0>1", ":");
        dueNext("2;0>1:0+0;1>", "0");
        dueNext("6;5>4:20+9;4>", "01235");
        dueNext("6;5>4:20+9;4>5", ":");
    }

    private void faultAtA() {
        promise(4, "the first letter of THE PAGE that no NET has there ... "
                + "A (without a 0 ahead) ... A (0 to 20)");
        dueNext("2;0>1:", DIGITS);
        dueNext("2;0>1:0", "+");
        dueNext("2;0>1:1", "+" + DIGITS);
        dueNext("2;0>1:2", "+0");
        for (int a = 3; a <= 20; a++) {
            dueNext("2;0>1:" + a, "+");
        }
        dueNext("2;0>1:20+9;1>0:", DIGITS);
        dueNext("2;0>1:20+9;1>0:0", "+");
        dueNext("2;0>1:20+9;1>0:2", "+0");
    }

    private void faultAtB() {
        promise(4, "the first letter of THE PAGE that no NET has there ... B (0 to 9)");
        dueNext("2;0>1:0+", DIGITS);
        dueNext("2;0>1:20+", DIGITS);
        for (int b = 0; b <= 9; b++) {
            dueNext("2;0>1:3+" + b, ";");
        }
    }

    private void faultBehindTenRoads() {
        promise(4, "the first letter of THE PAGE that no NET has there ... one to ten ROADS");
        dueNext("2" + ";0>1:0+9".repeat(9), ";");
        dueNext("2" + ";0>1:0+9".repeat(10), "");
        dueNext(LONGEST_NET, "");
        due("fault() of the longest net", page(LONGEST_NET).fault(), 91);
        due("fault() of eleven roads", page("2" + ";0>1:0+9".repeat(11)).fault(), 81);
    }

    private void faultIsTheFirst() {
        promise(4, "The place (from 0) of the first letter");
        due("fault() of a page of wrong ones", page("~".repeat(92)).fault(), 0);
        due("fault() with a blank ahead", page(" 2;0>1:1+1").fault(), 0);
        due("fault() of two wrong ones", page("2;0>0:21+1").fault(), 4);
        due("fault() with a net behind it", page("2;;0>1:1+1").fault(), 2);
        due("fault() of a net behind a net", page("2;0>1:1+12;0>1:1+1").fault(), 9);
        promise(4, "how many letters it has, if there is none");
        String net = "3;0>1:20+9;2>1:7+0";
        for (int n = 0; n <= net.length(); n++) {
            due("fault() of " + net.substring(0, n), page(net.substring(0, n)).fault(), n);
        }
    }

    private void faultTellsOnly() {
        promise(4, "The place (from 0)");
        tellsOnly("fault()", () -> page("2;0>1:1+1"), SelfishWays::fault, 9);
        tellsOnly("fault()", () -> page("2;0>1;1+1"), SelfishWays::fault, 5);
        SelfishWays x = furnished();
        x.blank();
        type(x, "6;9");
        SelfishWays same = furnished();
        same.blank();
        type(same, "6;9");
        due("fault()", x.fault(), 2);
        due("fault() again", x.fault(), 2);
        dueAlike("fault()", x, same);
    }

    // ---- promise 5

    private void netOfEachSize() {
        promise(5, "how many ROADS ... 2 to 6 NODES ... one to ten ROADS");
        for (int nodes = 2; nodes <= 6; nodes++) {
            for (int roads = 1; roads <= 10; roads++) {
                int last = nodes - 1;
                SelfishWays x = page(nodes + (";" + last + ">0:1+1").repeat(roads));
                due("net()", x.net(), roads);
                due("count(0)", x.count(0), roads);
                due("count(4)", x.count(4), 1);
                due("about(0)", x.about(0), nodes);
                due("about(1)", x.about(1), roads);
                due("road() of the last one", x.road(roads - 1, 0), last);
                due("road() behind the last one", x.road(roads, 0), UNKNOWN);
            }
        }
        due("net() of the longest", page(LONGEST_NET).net(), 10);
        due("net() of the shortest", page("2;0>1:0+0").net(), 1);
    }

    private void netWithEachAAndB() {
        promise(5, "THE PAGE is read as THE NET ... A (0 to 20) and B (0 to 9) ... 0 when the NET is read");
        for (int a = 0; a <= 20; a++) {
            int b = a % 10;
            SelfishWays x = on("6;3>5:" + (20 - a) + "+" + (9 - b) + ";5>0:" + a + "+" + b);
            dueRow("road(0, )", what -> x.road(0, what), 3, 5, 20 - a, 9 - b, 0, 0, NONE, 29 - a - b);
            dueRow("road(1, )", what -> x.road(1, what), 5, 0, a, b, 0, 0, NONE, a + b);
        }
    }

    private void netOnlyWhole() {
        promise(5, "STATE: it is none");
        String net = "3;0>1:20+9;2>1:7+0";
        for (int n = 0; n <= net.length(); n++) {
            int want = n == 10 ? 1 : n == 18 ? 2 : STATE;
            String part = net.substring(0, n);
            if (want == STATE) {
                refused("net() of " + part, () -> page(part), SelfishWays::net, STATE);
            } else {
                due("net() of " + part, page(part).net(), want);
            }
        }
        String[] none = {"1;0>1:1+1", "7;0>1:1+1", "2;0>0:1+1", "2;0>2:1+1", "2;2>0:1+1", "2;0>1:21+1",
            "2;0>1:01+1", "2;0>1:00+1", "2;0>1:+1", "2;0>1:1+10", "2;0>1:1+1 ", " 2;0>1:1+1", "2;;0>1:1+1",
            "2;0>1:1+1;;", "2;0>1:-1+1", "2;0>1:1+a", LONGEST_NET + ";", LONGEST_NET + "0",
            "2" + ";0>1:0+0".repeat(11)};
        for (String text : none) {
            refused("net() of " + text, () -> page(text), SelfishWays::net, STATE);
        }
    }

    private void netEmptiesThePage() {
        promise(5, "THE PAGE is empty then");
        SelfishWays x = on(TWO_ROADS);
        due("count(3)", x.count(3), 0);
        due("fault()", x.fault(), 0);
        due("net() again", x.net(), STATE);
        due("count(4)", x.count(4), 1);
        due("letter(50)", x.letter(50), 1);
        due("blank()", x.blank(), 1);
    }

    private void netTakesAway() {
        promise(5, "another one is gone, with all PLAYERS");
        SelfishWays x = furnished();
        x.blank();
        type(x, "2;0>1:3+1");
        due("net()", x.net(), 1);
        dueRow("about()", x::about, 2, 1, 1, 0, 0, 1, 1, 0);
        dueRow("road(0, )", what -> x.road(0, what), 0, 1, 3, 1, 0, 0, NONE, 4);
        due("road(1, 0)", x.road(1, 0), UNKNOWN);
        due("put(4, 2, 1)", x.put(4, 2, 1), UNKNOWN);
        due("count(1)", x.count(1), 0);
        due("who(0, 0)", x.who(0, 0), UNKNOWN);
        due("lead(0, 0)", x.lead(0, 0), UNKNOWN);
        due("rests(0)", x.rests(0), STATE);
        due("drop()", x.drop(), STATE);
        due("player(0, 2)", x.player(0, 2), UNKNOWN);
        due("player(0, 1)", x.player(0, 1), 0);
        due("pay(0, 0)", x.pay(0, 0), 4);
        type(x, "2;0>1:3+1");
        due("net() of the same", x.net(), 1);
        due("count(1)", x.count(1), 0);
        due("road(0, 5)", x.road(0, 5), 0);
        promise(5, "T ... 0 when the NET is read");
        x.put(0, 2, 40);
        type(x, "2;0>1:3+1;0>1:3+1");
        x.net();
        due("road(0, 4)", x.road(0, 4), 0);
        due("road(1, 4)", x.road(1, 4), 0);
    }

    private void netLeaves() {
        promise(5, "THE PAGE is read as THE NET");
        SelfishWays x = four(1, 1, 1, 1);
        x.run(2);
        x.mode(2);
        x.lane(4, 2);
        x.stream(40);
        x.share(10);
        type(x, "2;0>1:3+1");
        x.net();
        dueRow("count()", x::count, 1, 0, 1, 0, 2, 4, 2);
        due("about(2): MODE", x.about(2), 2);
        due("level(0): LANES and STREAM", x.level(0), 84);
        due("share(5): SHARE", x.share(5), 10);
    }

    private void netRefused() {
        promise(5, "STATE: it is none");
        refused("net() of 3;1", Boundary::furnished, SelfishWays::net, STATE);
        SelfishWays x = furnished();
        x.blank();
        SelfishWays same = furnished();
        same.blank();
        due("net() of nothing", x.net(), STATE);
        dueAlike("net() of nothing", x, same);
        SelfishWays two = new SelfishWays();
        for (int n = 1; n <= 40; n++) {
            type(two, "2;0>1:0+0");
            two.net();
            due("count(4)", two.count(4), n);
        }
    }
}
