/** The document from its first line on: the sentences that name no boundary, and what all share. */
public final class SentencesTest extends Boundary {
    /** From 0 to 1 for 1 and 2 K, from 1 to 2 for 3, from 0 to 2 for 5 and K. */
    private static final String TRIANGLE = "3;0>1:1+2;1>2:3+0;0>2:5+1";
    private static final String MANY_WAYS =
            "5;0>1:3+2;1>4:0+5;0>2:7+1;2>4:4+3;1>2:2+0;2>1:1+4;0>4:20+9;3>0:6+2;3>4:19+1";
    // All ways over MANY_WAYS from 0 to 4 and from 3 to 4, found by hand, in their order.
    private static final int[][] FROM_0_TO_4 = {{6}, {0, 1}, {2, 3}, {0, 4, 3}, {2, 5, 1}};
    private static final int[][] FROM_3_TO_4 =
            {{8}, {7, 6}, {7, 0, 1}, {7, 2, 3}, {7, 0, 4, 3}, {7, 2, 5, 1}};

    public static void main(String[] args) {
        SentencesTest test = new SentencesTest();
        test.hold(1, 36,
                test::usedForSoManyCalls, test::constants, test::refusalsChangeNothing,
                test::atFirst, test::pageGrowsBehind, test::pageIsEmptied, test::faultBehindThoseAhead,
                test::netAsAText, test::aboutInOrder, test::roadsFromZero, test::tollsOfEachRoad,
                test::modes, test::playersFromZero, test::lastPlayerGoes, test::whoInOrder,
                test::waysLeadThere, test::payAtAllRoads, test::payByLoadAndMode, test::loads,
                test::socialAndPotential, test::turnsOfTheLeast, test::runsAreTurns,
                test::allSetsAndRests, test::restSetsInOrder, test::goAndBest, test::prices,
                test::reachedAndLongest, test::leading, test::lanesFromZero, test::laneCosts,
                test::flowsByKind, test::levelAndTotals, test::worse, test::counts, test::digests);
    }

    /** The first player goes by the roads 0 and 1, the second one by 0 alone. */
    private static SelfishWays triangle(int mode) {
        SelfishWays x = on(TRIANGLE, 1, 0, 2);
        x.player(0, 1);
        x.put(0, 2, 10);
        x.put(1, 2, 20);
        x.put(2, 2, 40);
        x.mode(mode);
        x.set(0, 1);
        return x;
    }

    // ---- what is said ahead of the promises

    private void usedForSoManyCalls() {
        promise(35, "An object is used for at most 512 calls after it has been made");
        SelfishWays x = four();
        x.put(1, 0, 5);
        // 17 letters, net, 4 players and put are 23 calls, and 244 pairs 488 more.
        for (int pair = 0; pair < 244; pair++) {
            due("set(0, 1)", x.set(0, 1), 0);
            due("turn()", x.turn(), 0);
        }
        due("count(6), call 512", x.count(6), 244);
        SelfishWays y = new SelfishWays();
        for (int calls = 1; calls < 512; calls++) {
            due("lane(1, 1), call " + calls, y.lane(1, 1), calls <= 5 ? calls - 1 : FULL);
        }
        due("flow(0, 4, 1), call 512", y.flow(0, 4, 1), 5);
    }

    private void constants() {
        promise(1, "NONE = -1, UNKNOWN = -101, OUTSIDE = -102, STATE = -103, FULL = -104");
        due("NONE", SelfishWays.NONE, -1);
        due("UNKNOWN", SelfishWays.UNKNOWN, -101);
        due("OUTSIDE", SelfishWays.OUTSIDE, -102);
        due("STATE", SelfishWays.STATE, -103);
        due("FULL", SelfishWays.FULL, -104);
    }

    private void refusalsChangeNothing() {
        promise(36, "UNKNOWN (a number names nothing), OUTSIDE (it is not as told), STATE (as told), "
                + "FULL; they change nothing");
        SelfishWays x = furnished();
        long before = x.digest();
        int[] got = {x.letter(31), x.net(), x.about(8), x.road(5, 0), x.road(0, 8), x.put(5, 0, 0),
            x.put(0, 0, 21), x.mode(3), x.player(4, 0), x.player(3, 0), x.who(3, 0), x.who(0, 7),
            x.way(0, 0, 2), x.pay(0, 3), x.set(3, 0), x.run(61), x.rests(6), x.rest(99, 0), x.go(99),
            x.price(4), x.reach(3), x.lead(0, 3), x.leads(3), x.follow(3), x.lane(0, 3), x.stream(41),
            x.share(11), x.flow(0, 3, 0), x.flow(4, 0, 0), x.level(2), x.total(3), x.worse(3),
            x.count(7)};
        int[] want = {OUTSIDE, STATE, OUTSIDE, UNKNOWN, OUTSIDE, UNKNOWN,
            OUTSIDE, OUTSIDE, UNKNOWN, STATE, UNKNOWN, OUTSIDE,
            UNKNOWN, UNKNOWN, UNKNOWN, OUTSIDE, OUTSIDE, UNKNOWN, UNKNOWN,
            OUTSIDE, OUTSIDE, UNKNOWN, UNKNOWN, UNKNOWN, OUTSIDE, OUTSIDE,
            OUTSIDE, UNKNOWN, OUTSIDE, OUTSIDE, OUTSIDE, OUTSIDE, OUTSIDE};
        for (int i = 0; i < got.length; i++) {
            due("refusal " + i, got[i], want[i]);
        }
        due("digest() behind all of them", x.digest(), before);
        dueAlike("all of them", x, furnished());
    }

    // ---- promises 1 to 5

    private void atFirst() {
        promise(1, "No NET ... At first there is none");
        due("about(1)", new SelfishWays().about(1), STATE);
        due("count(0)", new SelfishWays().count(0), 0);
        due("about(1) of a page that is not read", page(TRIANGLE).about(1), STATE);
    }

    private void pageGrowsBehind() {
        promise(2, "A letter comes behind THE PAGE, told by its code");
        SelfishWays x = page("2;0>1:0+");
        due("letter(57)", x.letter('9'), 9);
        due("net()", x.net(), 1);
        due("road(0, 3): the letter that came last is the last one", x.road(0, 3), 9);
    }

    private void pageIsEmptied() {
        promise(3, "THE PAGE is empty: how many letters it had");
        SelfishWays x = page("3;2");
        due("blank()", x.blank(), 3);
        dueAlike("blank()", x, new SelfishWays());
    }

    private void faultBehindThoseAhead() {
        promise(4, "that no NET has there, behind those ahead of it");
        due("fault() of 5;4", page("5;4").fault(), 3);
        due("fault() of 4;4", page("4;4").fault(), 2);
        due("fault() of 5;4>4", page("5;4>4").fault(), 4);
        due("fault() of 5;3>4", page("5;3>4").fault(), 5);
        due("fault() of 5;3>4:19", page("5;3>4:19").fault(), 8);
        due("fault() of 5;3>4:29", page("5;3>4:29").fault(), 7);
    }

    private void netAsAText() {
        promise(5, "As a text: the digit of how many NODES, and for each ROAD, in order, \";\", "
                + "the digit of FROM, \">\", that of TO, \":\", A (without a 0 ahead), \"+\", "
                + "the digit of B");
        SelfishWays x = page("6;5>0:17+4;2>3:0+9;5>0:17+4");
        due("net()", x.net(), 3);
        due("about(0)", x.about(0), 6);
        dueRow("road(0, )", what -> x.road(0, what), 5, 0, 17, 4);
        dueRow("road(1, )", what -> x.road(1, what), 2, 3, 0, 9);
        dueRow("road(2, )", what -> x.road(2, what), 5, 0, 17, 4);
    }

    // ---- promises 6 to 9

    private void aboutInOrder() {
        promise(6, "What = 0 how many NODES, 1 ROADS, 2 MODE, 3 SOCIAL, 4 POTENTIAL");
        // The roads cost 1, 2, 2 for two, and 3 for one; two and one set, two on road 0.
        dueRow("about()", triangle(0)::about, 3, 3, 0, 13, 11, 0, 2, 2);
        dueRow("about() by MODE 1", triangle(1)::about, 3, 3, 1, 13, 11 + 10 + 10 + 20, 1, 2, 2);
        dueRow("about() by MODE 2", triangle(2)::about, 3, 3, 2, 13, 11 + 2, 0, 2, 2);
    }

    private void roadsFromZero() {
        promise(7, "NODES, numbered from 0, and one to ten ROADS, numbered from 0");
        SelfishWays x = on("2;1>0:1+1;0>1:2+2");
        dueRow("road(0, )", what -> x.road(0, what), 1, 0, 1, 1);
        dueRow("road(1, )", what -> x.road(1, what), 0, 1, 2, 2);
        promise(7, "Of a ROAD: what = 0 FROM, 1 TO, 2 A, 3 B, 4 T, 5 LOAD");
        SelfishWays y = triangle(1);
        dueRow("road(0, )", what -> y.road(0, what), 0, 1, 1, 2, 10, 2, 15, 17);
        dueRow("road(1, )", what -> y.road(1, what), 1, 2, 3, 0, 20, 1, 23, 23);
        dueRow("road(2, )", what -> y.road(2, what), 0, 2, 5, 1, 40, 0, NONE, 46);
    }

    private void tollsOfEachRoad() {
        promise(8, "Each ROAD has a T (0 to 40), 0 when the NET is read");
        SelfishWays x = on(TRIANGLE);
        for (int road = 0; road < 3; road++) {
            due("road(" + road + ", 4)", x.road(road, 4), 0);
        }
        due("put(1, 2, 33)", x.put(1, 2, 33), 0);
        due("road(0, 4)", x.road(0, 4), 0);
        due("road(1, 4)", x.road(1, 4), 33);
        due("road(2, 4)", x.road(2, 4), 0);
        due("put(1, 2, 8)", x.put(1, 2, 8), 33);
    }

    private void modes() {
        promise(9, "MODE: 0 no tolls; 1 FIXED tolls; 2 tolls by OTHERS");
        int[] pays = {5 + 3, 5 + 3 + 10 + 20, 5 + 3 + 2};
        for (int mode = 0; mode <= 2; mode++) {
            SelfishWays x = triangle(0);
            due("mode(" + mode + ")", x.mode(mode), 0);
            due("who(0, 4)", x.who(0, 4), pays[mode]);
        }
    }

    // ---- promises 10 to 17

    private void playersFromZero() {
        promise(10, "PLAYERS are numbered from 0");
        SelfishWays x = on(TRIANGLE);
        due("player(0, 2)", x.player(0, 2), 0);
        due("player(1, 2)", x.player(1, 2), 1);
        due("who(0, 0)", x.who(0, 0), 0);
        due("who(1, 0)", x.who(1, 0), 1);
        promise(10, "each takes one of them");
        // The way by road 2 costs 6, that by 0 and 1 would cost 3 and 3.
        due("who(0, 3)", x.who(0, 3), 0);
        x.put(2, 0, 6);
        due("player(0, 2)", x.player(0, 2), 2);
        due("who(2, 3)", x.who(2, 3), 1);
    }

    private void lastPlayerGoes() {
        promise(11, "The last PLAYER is gone: how many are left");
        SelfishWays x = triangle(0);
        due("drop()", x.drop(), 1);
        dueRow("who(0, )", what -> x.who(0, what), 0, 2, 2, 1, 6, 1, 6);
        due("who(1, 0)", x.who(1, 0), UNKNOWN);
    }

    private void whoInOrder() {
        promise(12, "Of a PLAYER: what = 0 FROM, 1 TO, 2 how many WAYS it has, 3 which it takes, "
                + "4 its PAY, 5 its BEST WAY, 6 its PAY by that");
        SelfishWays x = triangle(0);
        dueRow("who(0, )", what -> x.who(0, what), 0, 2, 2, 1, 8, 0, 6);
        dueRow("who(1, )", what -> x.who(1, what), 0, 1, 1, 0, 5, 0, 5);
        SelfishWays y = triangle(1);
        dueRow("who(0, ) by MODE 1", what -> y.who(0, what), 0, 2, 2, 1, 38, 1, 38);
    }

    private void dueWays(SelfishWays x, int player, int[][] ways) {
        due("who(" + player + ", 2)", x.who(player, 2), ways.length);
        for (int i = 0; i < ways.length; i++) {
            int way = i;
            dueRow("way(" + player + ", " + way + ", )", place -> x.way(player, way, place), ways[way]);
            due("way() behind its end", x.way(player, way, ways[way].length), UNKNOWN);
        }
        due("way() behind the last one", x.way(player, ways.length, 0), UNKNOWN);
    }

    private void waysLeadThere() {
        promise(13, "A ROAD of a WAY of a PLAYER ... with all WAYS between these (twelve at most), "
                + "numbered in their order from 0");
        SelfishWays x = on(MANY_WAYS);
        x.player(0, 4);
        x.player(3, 4);
        dueWays(x, 0, FROM_0_TO_4);
        dueWays(x, 1, FROM_3_TO_4);
        promise(13, "the first one FROM the one, each other one FROM where the one ahead leads TO, "
                + "the last one TO the other");
        for (int player = 0; player < 2; player++) {
            for (int way = 0; way < x.who(player, 2); way++) {
                int node = x.who(player, 0);
                for (int place = 0; x.way(player, way, place) != UNKNOWN; place++) {
                    int road = x.way(player, way, place);
                    due("road(" + road + ", 0)", x.road(road, 0), node);
                    node = x.road(road, 1);
                }
                due("where way " + way + " ends", node, x.who(player, 1));
            }
        }
    }

    private void payAtAllRoads() {
        promise(14, "PAY of a PLAYER by one of its WAYS ... "
                + "PAY of a PLAYER: what it pays at all ROADS of its WAY");
        SelfishWays x = on(MANY_WAYS, 1, 0, 4);
        dueRow("pay(0, )", way -> x.pay(0, way), 29, 5 + 5, 8 + 7, 5 + 2 + 7, 8 + 5 + 5);
        due("who(0, 4)", x.who(0, 4), 10);
        SelfishWays two = on(MANY_WAYS, 2, 0, 4);
        take(two, 1, 1);
        // The other one stays on 0 and 1.
        dueRow("pay(0, ) of two", way -> two.pay(0, way), 29, 7 + 10, 8 + 7, 7 + 2 + 7, 8 + 5 + 10);
    }

    private void payByLoadAndMode() {
        promise(14, "At a ROAD with a LOAD of K each PLAYER pays A, and B times K, and by MODE 1 T, "
                + "by MODE 2 B times (K less 1)");
        for (int k = 1; k <= 5; k++) {
            SelfishWays x = on("2;0>1:7+3", k, 0, 1);
            x.put(0, 2, 11);
            int[] want = {7 + 3 * k, 7 + 3 * k + 11, 7 + 3 * k + 3 * (k - 1)};
            for (int mode = 0; mode <= 2; mode++) {
                x.mode(mode);
                due("road(0, 6) of " + k + " by MODE " + mode, x.road(0, 6), want[mode]);
                for (int player = 0; player < k; player++) {
                    due("pay() of " + k + " by MODE " + mode, x.pay(player, 0), want[mode]);
                }
            }
        }
    }

    private void loads() {
        promise(15, "A SET: which each PLAYER takes. "
                + "LOAD of a ROAD: how many PLAYERS take a WAY with it");
        SelfishWays x = on(MANY_WAYS, 2, 0, 4);
        x.player(3, 4);
        take(x, 3, 4, 5);
        // 0 4 3, 2 5 1 and 7 2 5 1.
        dueRow("LOAD", road -> x.road(road, 5), 1, 2, 2, 1, 1, 2, 0, 1, 0);
        due("set(1, 1)", x.set(1, 1), 4);
        dueRow("LOAD behind set()", road -> x.road(road, 5), 2, 2, 1, 1, 1, 1, 0, 1, 0);
        dueSet("set()", x, 3, 1, 5);
    }

    private void socialAndPotential() {
        promise(6, "SOCIAL: for all PLAYERS, at all ROADS of their WAYS, A and B times LOAD, together");
        SelfishWays x = on(MANY_WAYS, 2, 0, 4);
        x.player(3, 4);
        take(x, 1, 3, 2);
        // 0 1, 0 4 3 and 7 0 1: by roads 0, 1, 3, 4 and 7.
        due("about(3)", x.about(3), 3 * 9 + 2 * 10 + 7 + 2 + 8);
        due("about(3): all PAYS, by MODE 0", x.about(3), x.who(0, 4) + x.who(1, 4) + x.who(2, 4));
        promise(6, "POTENTIAL: for each ROAD, for each K from 1 to its LOAD, "
                + "what a PLAYER pays there at a LOAD of K, all together");
        due("about(4)", x.about(4), 5 + 7 + 9 + 5 + 10 + 7 + 2 + 8);
        x.mode(2);
        due("about(4) by MODE 2", x.about(4), 5 + 9 + 13 + 5 + 15 + 7 + 2 + 8);
        due("about(3) by MODE 2", x.about(3), 64);
        x.mode(1);
        x.put(0, 2, 6);
        x.put(6, 2, 40);
        due("about(4) by MODE 1", x.about(4), 53 + 3 * 6);
    }

    private void turnsOfTheLeast() {
        promise(16, "A TURN: the least PLAYER that has a WAY of lesser PAY takes its BEST WAY");
        promise(16, "A TURN: the PLAYER");
        SelfishWays x = four(0, 1, 0, 1);
        due("turn()", x.turn(), 1);
        dueSet("turn()", x, 0, 0, 0, 1);
        due("turn() at rest", x.turn(), NONE);
        SelfishWays y = on(MANY_WAYS, 1, 0, 4);
        y.set(0, 4);
        due("turn()", y.turn(), 0);
        // 10 is the least, though 14 and 15 would be less than 18 too.
        dueSet("turn()", y, 1);
    }

    private void runsAreTurns() {
        promise(17, "So many TURNS, or as many as there are till it RESTS");
        SelfishWays x = four(1, 1, 1, 1);
        due("run(2)", x.run(2), 2);
        dueSet("run(2)", x, 0, 0, 1, 1);
        due("run(2) again", x.run(2), 1);
        dueSet("run(2) again", x, 0, 0, 0, 1);
    }

    // ---- promises 18 to 26

    private void allSetsAndRests() {
        promise(18, "ALL SETS: each PLAYER each of its WAYS");
        SelfishWays x = on(MANY_WAYS, 1, 0, 4);
        x.player(3, 4);
        x.player(1, 4);
        due("about(6)", x.about(6), 5 * 6 * 2);
        promise(18, "1 their least SOCIAL, 2 their greatest SOCIAL, 3 the least SOCIAL of ALL SETS");
        dueRow("rests()", four()::rests, 5, 13, 16, 12);
    }

    private void restSetsInOrder() {
        promise(19, "Which WAY a PLAYER takes in a REST SET (its number = place) ... "
                + "numbered from 0 in their order");
        SelfishWays x = four(1, 0, 1, 0);
        int[][] want = {{0, 0, 0, 0}, {0, 0, 0, 1}, {0, 0, 1, 0}, {0, 1, 0, 0}, {1, 0, 0, 0}};
        for (int i = 0; i < want.length; i++) {
            int place = i;
            dueRow("rest(" + place + ", )", player -> x.rest(place, player), want[place]);
        }
        due("rest(5, 0)", x.rest(5, 0), UNKNOWN);
    }

    private void goAndBest() {
        promise(20, "All take what they take in a REST SET: SOCIAL then");
        SelfishWays x = four(1, 1, 1, 1);
        due("go(3)", x.go(3), 13);
        dueSet("go(3)", x, 0, 1, 0, 0);
        due("go(0)", x.go(0), 16);
        dueSet("go(0)", x, 0, 0, 0, 0);
        promise(21, "All take what they take in the first one of ALL SETS with the least SOCIAL: that");
        due("best()", x.best(), 12);
        dueSet("best()", x, 0, 0, 1, 1);
    }

    private void prices() {
        promise(22, "PRICE: the greatest SOCIAL of REST SETS, by the least SOCIAL of ALL SETS; "
                + "GOOD PRICE: the least SOCIAL of REST SETS, by that");
        promise(22, "What = 0 the number above the line of PRICE, 1 the one below it, "
                + "2, 3 so of GOOD PRICE");
        dueRow("price()", four()::price, 4, 3, 13, 12);
        SelfishWays tolls = four();
        tolls.mode(2);
        // By 1, 3, 5 against 4 two rest on the first road, and that is best.
        dueRow("price() by MODE 2", tolls::price, 1, 1, 1, 1);
    }

    private void reachedAndLongest() {
        promise(23, "What = 0 how many SETS are REACHED, 1 how many of these are REST SETS, 2 LONGEST");
        promise(23, "REACHED are SETS to which one comes from the SET as it is, by changes, "
                + "one after the other, each of one PLAYER, to any WAY of lesser PAY for it; "
                + "also that SET itself");
        // None, one, two or three of four come to the first road.
        dueRow("reach()", four(1, 1, 1, 1)::reach, 1 + 4 + 6 + 4, 4, 3);
        promise(23, "LONGEST: the greatest number of such changes one after the other, from there");
        dueRow("reach() of two there", four(0, 1, 0, 1)::reach, 3, 2, 1);
        SelfishWays x = on(MANY_WAYS, 1, 0, 4);
        x.set(0, 0);
        // It pays 29, 10, 15, 14, 18: each less than the one ahead is four changes.
        dueRow("reach() of one", x::reach, 5, 1, 4);
    }

    private void leading() {
        promise(24, "A PLAYER LEADS by a WAY: it takes that, and stays; then, "
                + "from the SET as it is else, TURNS of the others");
        SelfishWays x = triangle(0);
        // On 0 and 1 it pays 5 and 3, and the other one has no other way.
        dueRow("lead(0, )", way -> x.lead(0, way), 6, 8);
        // The other one then takes road 2, and leaves it alone on road 0.
        due("lead(1, 0)", x.lead(1, 0), 3);
        dueSet("lead()", x, 1, 0);
        promise(25, "The WAY by which that is least");
        due("leads(0)", x.leads(0), 0);
        due("leads(1)", x.leads(1), 0);
        promise(26, "A PLAYER LEADS by that WAY; the SET is as it is in the end: its PAY then");
        due("follow(1)", x.follow(1), 3);
        dueSet("follow(1)", x, 0, 0);
    }

    // ---- promises 27 to 34

    private void lanesFromZero() {
        promise(27, "LANES lie side by side, numbered from 0");
        SelfishWays x = new SelfishWays();
        due("lane(20, 1)", x.lane(20, 1), 0);
        due("lane(0, 4)", x.lane(0, 4), 1);
        x.stream(5);
        dueFlow(x, 0, 0, 0, 1);
        dueFlow(x, 0, 1, 5, 1);
        promise(28, "No LANES any more: how many there were");
        due("clear()", x.clear(), 2);
        promise(29, "There is another STREAM: which it was");
        due("stream(6)", x.stream(6), 5);
        promise(30, "There is another SHARE: which it was");
        due("share(6)", x.share(6), 5);
    }

    private void laneCosts() {
        promise(32, "a LANE with an amount of X costs A and B times X");
        for (int b = 1; b <= 4; b *= 2) {
            SelfishWays x = lanes(9, 5, 7, b);
            due("level(0)", x.level(0), 7 + 9 * b);
            due("level(1)", x.level(1), 1);
            due("total(0)", x.total(0), 1000 * 9 * (7 + 9 * b));
        }
    }

    private void flowsByKind() {
        promise(31, "kind = 0 by EVEN, 1 by WISE, 2 LED (all of it), 3 LED (the LEADER'S alone); "
                + "what = 0 the number above the line, 1 the one below it");
        SelfishWays x = lanes(10, 3, 0, 1, 6, 1);
        int[][] first = {{8, 1}, {13, 2}, {7, 1}, {0, 1}};
        int[][] second = {{2, 1}, {7, 2}, {3, 1}, {3, 1}};
        for (int kind = 0; kind <= 3; kind++) {
            dueFlow(x, kind, 0, first[kind][0], first[kind][1]);
            dueFlow(x, kind, 1, second[kind][0], second[kind][1]);
        }
    }

    private void levelAndTotals() {
        promise(32, "What LANES with some cost by EVEN, in lowest terms: "
                + "what = 0 the number above the line, 1 the one below it");
        // 4/7, 2/7 and 1/7 of 3 cost 12/7 each.
        dueRow("level()", lanes(3, 5, 0, 1, 0, 2, 0, 4)::level, 12, 7);
        dueRow("level() of two", lanes(10, 3, 0, 1, 6, 1)::level, 8, 1);
        promise(33, "kind = 0 by EVEN, 1 by WISE, 2 LED");
        // 8 times 8 and 2 times 8; 13/2 squared and 7/2 times 19/2; 7 times 7 and 3 times 9.
        dueRow("total()", lanes(10, 3, 0, 1, 6, 1)::total, 80000, 75500, 76000);
    }

    private void worse() {
        promise(34, "10000 times total() of a kind (0 to 2), divided by total() of 1, rounded down");
        // 800000 by 75.5 and 760000 by 75.5.
        dueRow("worse()", lanes(10, 3, 0, 1, 6, 1)::worse, 10596, 10000, 10066);
    }

    // ---- promises 35 and 36

    private void counts() {
        promise(35, "0 ROADS, 1 PLAYERS, 2 LANES, 3 letters of THE PAGE, 4 how often a NET was read, "
                + "5 how often a PLAYER came, 6 how many TURNS there were by turn() and run()");
        SelfishWays x = triangle(0);
        x.drop();
        type(x, "2;0>1");
        x.lane(0, 1);
        x.lane(0, 1);
        x.lane(0, 1);
        x.lane(0, 1);
        x.turn();
        x.set(0, 1);
        x.put(2, 0, 0);
        x.run(60);
        dueRow("count()", x::count, 3, 1, 4, 5, 1, 2, 1);
    }

    private void digests() {
        promise(36, "h is 1543, then for each of these numbers, in order, 31 times h, and it");
        long h = 1543;
        for (int number : new int[] {'6', ';', 0, 0, 0, 2, 0, 0, 0}) {
            h = 31 * h + number;
        }
        due("digest()", page("6;").digest(), h);
    }
}
