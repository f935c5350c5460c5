import java.util.function.Supplier;

/** Promises 18 to 26: each sentence of theirs that names a boundary. */
public final class SetBoundariesTest extends Boundary {
    private static final String FREE = "2;0>1:0+0;0>1:0+0";
    private static final String EIGHT_ALIKE = "2" + ";0>1:0+1".repeat(8);

    public static void main(String[] args) {
        SetBoundariesTest test = new SetBoundariesTest();
        test.hold(18, 26,
                test::restsOutside, test::allRefusedWithoutPlayers, test::allRefusedAbove500,
                test::allToldUpTo500, test::restsOfOneSet, test::restsAllAlike,
                test::restsAsDearIsRest, test::restsFollowChanges, test::restsTellOnly,
                test::restUnknown, test::restOrder, test::goUnknown, test::goFirstAndLast,
                test::bestIsTheFirst, test::priceOutside, test::priceInLowestTerms,
                test::priceByNothing, test::reachOutside, test::reachAtRest,
                test::reachAnyLesserPay, test::reachFromTheSetAsItIs, test::leadUnknown,
                test::leadStays, test::leadFromTheSetAsItIs, test::leadTellsOnly,
                test::leadsOfSeveralTheFirst, test::leadsUnknown, test::followEnds,
                test::followUnknown, test::leadingAbove500);
    }

    /** Five ways for three players, four for the last one: 500 sets. */
    private static SelfishWays sets500() {
        SelfishWays x = on("3" + ";0>1:0+1".repeat(5) + ";1>2:0+1".repeat(4), 3, 0, 1);
        x.player(1, 2);
        return x;
    }

    /** 7, 6, 3, 2 and 2 ways: 504 sets, the next number above 500 that can be. */
    private static SelfishWays sets504() {
        SelfishWays x = on("3;0>1:0+1;0>1:0+1;1>2:0+1;1>2:0+1;1>2:0+1;0>2:0+1;2>0:0+1;2>0:0+1");
        x.player(0, 2);
        x.player(1, 0);
        x.player(1, 2);
        x.player(0, 1);
        x.player(0, 1);
        return x;
    }

    private void dueRests(String when, SelfishWays x, int... want) {
        dueRow("rests() " + when, x::rests, want);
    }

    // ---- promise 18

    private void restsOutside() {
        promise(18, "OUTSIDE");
        for (int what : new int[] {-1, 6, 7, Integer.MIN_VALUE, Integer.MAX_VALUE}) {
            refused("rests(" + what + ")", Boundary::furnished, x -> x.rests(what), OUTSIDE);
        }
        promise(18, "OUTSIDE; STATE");
        due("rests(6) without net", new SelfishWays().rests(6), OUTSIDE);
        due("rests(-1) with nobody", on(TWO_ROADS).rests(-1), OUTSIDE);
        due("rests(6) of 504 sets", sets504().rests(6), OUTSIDE);
    }

    /** All calls that are refused as rests() is; those with an OUTSIDE have it first. */
    private void dueRefused(String when, Supplier<SelfishWays> made) {
        for (int what = 0; what <= 5; what++) {
            int asked = what;
            promise(18, "STATE: there are no PLAYERS, or more than 500 SETS");
            refused("rests(" + what + ") " + when, made, x -> x.rests(asked), STATE);
        }
        promise(19, "STATE: as for rests(); UNKNOWN: place, player");
        refused("rest(0, 0) " + when, made, x -> x.rest(0, 0), STATE);
        refused("rest(-1, 0) " + when, made, x -> x.rest(-1, 0), STATE);
        refused("rest(0, 5) " + when, made, x -> x.rest(0, 5), STATE);
        promise(20, "STATE: as for rests(); UNKNOWN: place");
        refused("go(0) " + when, made, x -> x.go(0), STATE);
        refused("go(-1) " + when, made, x -> x.go(-1), STATE);
        promise(21, "STATE: as for rests()");
        refused("best() " + when, made, SelfishWays::best, STATE);
        promise(22, "OUTSIDE; STATE: as for rests()");
        for (int what = 0; what <= 3; what++) {
            int asked = what;
            refused("price(" + what + ") " + when, made, x -> x.price(asked), STATE);
        }
        refused("price(-1) " + when, made, x -> x.price(-1), OUTSIDE);
        refused("price(4) " + when, made, x -> x.price(4), OUTSIDE);
        promise(23, "OUTSIDE; STATE: as for rests()");
        for (int what = 0; what <= 2; what++) {
            int asked = what;
            refused("reach(" + what + ") " + when, made, x -> x.reach(asked), STATE);
        }
        refused("reach(-1) " + when, made, x -> x.reach(-1), OUTSIDE);
        refused("reach(3) " + when, made, x -> x.reach(3), OUTSIDE);
    }

    private static SelfishWays allGone() {
        SelfishWays x = four();
        x.rests(0);
        while (x.drop() > 0) {
            continue;
        }
        return x;
    }

    private static SelfishWays netAnew() {
        SelfishWays x = four();
        x.rests(0);
        type(x, TWO_ROADS);
        x.net();
        return x;
    }

    private void allRefusedWithoutPlayers() {
        dueRefused("without net", SelfishWays::new);
        dueRefused("with nobody", () -> on(TWO_ROADS));
        dueRefused("with nobody left", SetBoundariesTest::allGone);
        dueRefused("on another net", SetBoundariesTest::netAnew);
    }

    private void allRefusedAbove500() {
        dueRefused("of 504 sets", SetBoundariesTest::sets504);
        dueRefused("of 512 sets", () -> on(EIGHT_ALIKE, 3, 0, 1));
        promise(18, "STATE: ... more than 500 SETS");
        due("about(6)", sets504().about(6), 504);
        SelfishWays x = sets504();
        x.drop();
        due("rests(0) behind drop() is told", x.rests(0) > 0 ? 1 : 0, 1);
        x.player(0, 1);
        due("rests(0) of 504 sets again", x.rests(0), STATE);
        SelfishWays most = on("3" + ";0>1:0+1".repeat(3) + ";1>2:0+1".repeat(4), 5, 0, 2);
        due("about(6)", most.about(6), 248832);
        due("rests(0) of the most", most.rests(0), STATE);
    }

    private void allToldUpTo500() {
        promise(18, "STATE: ... more than 500 SETS");
        SelfishWays x = sets500();
        due("about(6)", x.about(6), 500);
        dueRests("of 500 sets", x, 240, 4, 4, 4, 4, 240);
        due("rest(239, 0)", x.rest(239, 0), 4);
        due("rest(239, 3)", x.rest(239, 3), 3);
        due("rest(240, 0)", x.rest(240, 0), UNKNOWN);
        due("go(239)", x.go(239), 4);
        dueSet("go(239)", x, 4, 3, 2, 3);
        due("best()", x.best(), 4);
        dueSet("best()", x, 0, 1, 2, 0);
        dueRow("price()", x::price, 1, 1, 1, 1);
        take(x, 4, 4, 4, 3);
        dueRow("reach()", x::reach, 1 + 3 * 4 + 3 * 4 * 3, 36, 2);
    }

    private void restsOfOneSet() {
        promise(18, "0 how many REST SETS there are ... 5 how many of ALL SETS have the least SOCIAL");
        dueRests("of one player with one way", on("2;0>1:3+1", 1, 0, 1), 1, 4, 4, 4, 4, 1);
        dueRests("of five with one way", on("2;0>1:20+9", 5, 0, 1), 1, 325, 325, 325, 235, 1);
        dueRests("of one with two ways", on("2;0>1:3+1;0>1:2+1", 1, 0, 1), 1, 3, 3, 3, 3, 1);
    }

    private void restsAllAlike() {
        promise(18, "0 how many REST SETS there are ... 5 how many of ALL SETS have the least SOCIAL");
        dueRests("where nothing is paid", on(FREE, 2, 0, 1), 4, 0, 0, 0, 0, 4);
        dueRests("where all pay 7", on("2;0>1:7+0;0>1:7+0;0>1:7+0", 3, 0, 1), 27, 21, 21, 21, 21, 27);
    }

    private void restsAsDearIsRest() {
        promise(18, "REST SETS are those by which it RESTS");
        dueRests("of four", four(0, 0, 1, 1), 5, 13, 16, 12, 10, 6);
        SelfishWays x = four(0, 0, 1, 1);
        x.put(1, 0, 5);
        // With 0 to 4 on the first road SOCIAL is 20, 16, 14, 14, 16.
        dueRests("where the other road costs 5", x, 1, 16, 16, 14, 10, 10);
        x.put(1, 0, 3);
        // Now it is 12, 10, 10, 12, 16, and 2 or 3 are at rest there.
        dueRests("where it costs 3", x, 10, 10, 12, 10, 9, 10);
        promise(18, "4 the least POTENTIAL of ALL SETS");
        x.mode(1);
        x.put(0, 2, 40);
        due("rests(4) by MODE 1", x.rests(4), 12);
        x.mode(2);
        due("rests(4) by MODE 2", x.rests(4), 1 + 3 + 3 + 3);
    }

    private void restsFollowChanges() {
        promise(18, "0 how many REST SETS there are");
        SelfishWays x = four();
        due("rests(0)", x.rests(0), 5);
        promise(8, "A ROAD gets another A");
        x.put(1, 0, 3);
        due("rests(0) behind put()", x.rests(0), 10);
        due("rests(2) behind put()", x.rests(2), 12);
        promise(9, "There is another MODE");
        x.mode(2);
        // By 1, 3, 5 against 3: one or two on the first road.
        due("rests(0) behind mode()", x.rests(0), 10);
        due("rests(2) behind mode()", x.rests(2), 10);
        promise(11, "The last PLAYER is gone");
        x.drop();
        // One or two of three.
        due("rests(0) behind drop()", x.rests(0), 6);
        promise(10, "A PLAYER comes");
        x.player(0, 1);
        due("rests(0) behind player()", x.rests(0), 10);
        promise(5, "another one is gone, with all PLAYERS");
        type(x, FREE);
        x.net();
        come(x, 4, 0, 1);
        due("rests(0) behind net()", x.rests(0), 16);
    }

    private void restsTellOnly() {
        promise(18, "REST SETS");
        for (int what = 0; what <= 5; what++) {
            int asked = what;
            int[] want = {5, 13, 16, 12, 10, 6};
            tellsOnly("rests(" + what + ")", () -> four(1, 0, 1, 1), x -> x.rests(asked), want[what]);
        }
    }

    // ---- promise 19

    private void restUnknown() {
        promise(19, "UNKNOWN: place, player");
        for (int place : new int[] {-1, 5, 499, 500, Integer.MIN_VALUE, Integer.MAX_VALUE}) {
            refused("rest(" + place + ", 0)", () -> four(1, 0, 1, 1), x -> x.rest(place, 0), UNKNOWN);
        }
        for (int player : new int[] {-1, 4, 5, Integer.MIN_VALUE, Integer.MAX_VALUE}) {
            refused("rest(0, " + player + ")", () -> four(1, 0, 1, 1), x -> x.rest(0, player), UNKNOWN);
        }
        due("rest(4, 3)", four().rest(4, 3), 0);
        due("rest(4, 0)", four().rest(4, 0), 1);
        due("rest(0, 3)", four().rest(0, 3), 0);
        due("rest(0, 0) of one set", on("2;0>1:3+1", 1, 0, 1).rest(0, 0), 0);
        due("rest(1, 0) of one set", on("2;0>1:3+1", 1, 0, 1).rest(1, 0), UNKNOWN);
    }

    private void restOrder() {
        promise(19, "that one is ahead that has the lesser WAY of the least PLAYER "
                + "for which they are unlike");
        int[][] ofFour = {{0, 0, 0, 0}, {0, 0, 0, 1}, {0, 0, 1, 0}, {0, 1, 0, 0}, {1, 0, 0, 0}};
        SelfishWays x = four(1, 1, 1, 1);
        for (int place = 0; place < 5; place++) {
            int asked = place;
            dueRow("rest(" + place + ", )", player -> x.rest(asked, player), ofFour[place]);
        }
        String free = "3;0>1:0+0;0>1:0+0;0>1:0+0;1>2:0+0;1>2:0+0";
        SelfishWays threeTwo = on(free, 1, 0, 1);
        threeTwo.player(1, 2);
        SelfishWays twoThree = on(free, 1, 1, 2);
        twoThree.player(0, 1);
        for (int place = 0; place < 6; place++) {
            int asked = place;
            dueRow("rest() of 3 and 2 ways", player -> threeTwo.rest(asked, player), place / 2, place % 2);
            dueRow("rest() of 2 and 3 ways", player -> twoThree.rest(asked, player), place / 3, place % 3);
        }
        due("rest(6, 0)", threeTwo.rest(6, 0), UNKNOWN);
        tellsOnly("rest(1, 3)", () -> four(1, 1, 1, 1), y -> y.rest(1, 3), 1);
    }

    // ---- promise 20

    private void goUnknown() {
        promise(20, "UNKNOWN: place");
        for (int place : new int[] {-1, 5, 6, 16, 500, Integer.MIN_VALUE, Integer.MAX_VALUE}) {
            refused("go(" + place + ")", () -> four(1, 0, 1, 1), x -> x.go(place), UNKNOWN);
        }
        refused("go(1) of one set", () -> on("2;0>1:3+1", 1, 0, 1), x -> x.go(1), UNKNOWN);
    }

    private void goFirstAndLast() {
        promise(20, "All take what they take in a REST SET: SOCIAL then");
        SelfishWays x = four(1, 1, 1, 1);
        due("go(0)", x.go(0), 16);
        dueSet("go(0)", x, 0, 0, 0, 0);
        due("about(3)", x.about(3), 16);
        due("go(4)", x.go(4), 13);
        dueSet("go(4)", x, 1, 0, 0, 0);
        due("go(4) again", x.go(4), 13);
        due("road(1, 5)", x.road(1, 5), 1);
        due("about(5)", x.about(5), 1);
        due("count(6): no turns", x.count(6), 0);
        x.mode(1);
        x.put(0, 2, 1);
        x.put(1, 2, 40);
        due("go(0) by MODE 1: SOCIAL has no tolls", x.go(0), 16);
        dueAlike("go(1)", gone(four(1, 1, 1, 1), 1), four(0, 0, 0, 1));
    }

    private static SelfishWays gone(SelfishWays x, int place) {
        x.go(place);
        return x;
    }

    // ---- promise 21

    private void bestIsTheFirst() {
        promise(21, "the first one of ALL SETS with the least SOCIAL: that");
        SelfishWays x = four(1, 1, 0, 0);
        due("best(): as good as the one it was", x.best(), 12);
        dueSet("best(): the first of several", x, 0, 0, 1, 1);
        due("about(3)", x.about(3), 12);
        due("about(5): no rest", x.about(5), 0);
        due("best() again", x.best(), 12);
        due("count(6): no turns", x.count(6), 0);
        SelfishWays first = on("2;0>1:1+0;0>1:2+0", 2, 0, 1);
        take(first, 1, 1);
        due("best(): the first of all", first.best(), 2);
        dueSet("best(): the first of all", first, 0, 0);
        SelfishWays last = on("2;0>1:2+0;0>1:1+0", 2, 0, 1);
        take(last, 0, 0);
        due("best(): the last of all", last.best(), 2);
        dueSet("best(): the last of all", last, 1, 1);
        SelfishWays alike = on(FREE, 5, 0, 1);
        take(alike, 1, 1, 1, 1, 1);
        due("best() of nothing", alike.best(), 0);
        dueSet("best() of nothing", alike, 0, 0, 0, 0, 0);
        x.mode(2);
        x.put(0, 2, 40);
        due("best(), whatever MODE is", x.best(), 12);
        x.put(1, 0, 20);
        // With 0 to 4 on the first road SOCIAL is 80, 61, 44, 29, 16 now.
        due("best() behind put(): the first of all", x.best(), 16);
        dueSet("best() behind put()", x, 0, 0, 0, 0);
        due("rests(5) behind put(): one alone", x.rests(5), 1);
    }

    // ---- promise 22

    private void priceOutside() {
        promise(22, "OUTSIDE");
        for (int what : new int[] {-1, 4, 5, Integer.MIN_VALUE, Integer.MAX_VALUE}) {
            refused("price(" + what + ")", Boundary::furnished, x -> x.price(what), OUTSIDE);
        }
    }

    private void priceInLowestTerms() {
        promise(22, "as fractions in lowest terms");
        dueRow("price(): 16 and 13 by 12", four()::price, 4, 3, 13, 12);
        dueRow("price(): 29 by 29", on("2;0>1:20+9", 1, 0, 1)::price, 1, 1, 1, 1);
        SelfishWays x = four();
        x.put(1, 0, 5);
        dueRow("price(): 16 by 14", x::price, 8, 7, 8, 7);
        x.put(1, 0, 3);
        dueRow("price(): 12 and 10 by 10", x::price, 6, 5, 1, 1);
        tellsOnly("price(2)", () -> four(1, 0, 1, 1), y -> y.price(2), 13);
    }

    private void priceByNothing() {
        promise(22, "by 0: 1 and 0; 0 by 0: 1 and 1");
        SelfishWays x = on("2;0>1:0+0;0>1:5+0", 2, 0, 1);
        dueRow("price(): 0 by 0", x::price, 1, 1, 1, 1);
        x.mode(1);
        x.put(0, 2, 5);
        dueRow("price(): 10 and 0 by 0", x::price, 1, 0, 1, 1);
        x.put(0, 2, 6);
        dueRow("price(): 10 and 10 by 0", x::price, 1, 0, 1, 0);
        x.put(0, 2, 4);
        dueRow("price(): 0 by 0 again", x::price, 1, 1, 1, 1);
    }

    // ---- promise 23

    private void reachOutside() {
        promise(23, "OUTSIDE");
        for (int what : new int[] {-1, 3, 4, Integer.MIN_VALUE, Integer.MAX_VALUE}) {
            refused("reach(" + what + ")", Boundary::furnished, x -> x.reach(what), OUTSIDE);
        }
    }

    private void reachAtRest() {
        promise(23, "also that SET itself");
        dueRow("reach() at rest", four(0, 0, 0, 0)::reach, 1, 1, 0);
        dueRow("reach() at rest, the last set", four(1, 0, 0, 0)::reach, 1, 1, 0);
        dueRow("reach() of one set", on("2;0>1:3+1", 1, 0, 1)::reach, 1, 1, 0);
        dueRow("reach() where nothing is paid", on(FREE, 5, 0, 1)::reach, 1, 1, 0);
        dueRow("reach() one change ahead of rest", four(0, 0, 1, 1)::reach, 3, 2, 1);
    }

    private void reachAnyLesserPay() {
        promise(23, "each of one PLAYER, to any WAY of lesser PAY for it");
        SelfishWays x = on("2;0>1:9+0;0>1:7+0;0>1:5+0;0>1:5+0;0>1:1+0", 1, 0, 1);
        x.set(0, 0);
        dueRow("reach() down stairs, two of them as high", x::reach, 5, 1, 3);
        x.set(0, 2);
        dueRow("reach(): not to one as dear", x::reach, 2, 1, 1);
        promise(23, "LONGEST: the greatest number of such changes one after the other");
        x.put(3, 0, 4);
        x.set(0, 0);
        dueRow("reach() down stairs", x::reach, 5, 1, 4);
        dueRow("reach() from 1111", four(1, 1, 1, 1)::reach, 15, 4, 3);
        SelfishWays two = on("3;0>1:1+0;0>1:0+0;1>2:1+0;1>2:0+0", 1, 0, 1);
        two.player(1, 2);
        take(two, 0, 0);
        dueRow("reach() of two, each by itself", two::reach, 4, 1, 2);
    }

    private void reachFromTheSetAsItIs() {
        promise(23, "from the SET as it is");
        SelfishWays x = four(1, 1, 1, 1);
        dueRow("reach() from 1111", x::reach, 15, 4, 3);
        x.turn();
        // From 0111: 3 with two, 3 with three of them, and itself.
        dueRow("reach() behind turn()", x::reach, 7, 3, 2);
        x.go(0);
        dueRow("reach() behind go()", x::reach, 1, 1, 0);
        x.best();
        dueRow("reach() behind best()", x::reach, 3, 2, 1);
        x.follow(0);
        dueRow("reach() behind follow()", x::reach, 1, 1, 0);
        x.put(1, 0, 5);
        dueRow("reach() behind put()", x::reach, 2, 1, 1);
        x.set(0, 1);
        dueRow("reach() behind set()", x::reach, 4, 1, 2);
        x.mode(2);
        // By 1, 3, 5, 7 against 5 none of the two would leave for a lesser one.
        dueRow("reach() behind mode()", x::reach, 1, 1, 0);
        x.drop();
        // Alone on the dearer road the first one would pay as much on the other one.
        dueRow("reach() behind drop()", x::reach, 1, 1, 0);
        tellsOnly("reach(0)", () -> four(1, 1, 1, 1), y -> y.reach(0), 15);
        tellsOnly("reach(2)", () -> four(1, 1, 1, 1), y -> y.reach(2), 3);
    }

    // ---- promise 24

    private void leadUnknown() {
        promise(24, "UNKNOWN: player, way");
        for (int n : new int[] {-1, 3, 12, Integer.MIN_VALUE, Integer.MAX_VALUE}) {
            refused("lead(" + n + ", 0)", Boundary::furnished, x -> x.lead(n, 0), UNKNOWN);
            refused("lead(0, " + n + ")", Boundary::furnished, x -> x.lead(0, n), UNKNOWN);
        }
        refused("lead(2, 2) of one with two ways", Boundary::furnished, x -> x.lead(2, 2), UNKNOWN);
        refused("lead(0, 0) with nobody", () -> on(TWO_ROADS), x -> x.lead(0, 0), UNKNOWN);
        refused("lead(0, 0) without net", SelfishWays::new, x -> x.lead(0, 0), UNKNOWN);
    }

    private void leadStays() {
        promise(24, "it takes that, and stays");
        SelfishWays alone = on("2;0>1:1+0;0>1:9+0", 1, 0, 1);
        dueRow("lead(0, ) alone", way -> alone.lead(0, way), 1, 9);
        SelfishWays two = on("2;0>1:0+1;0>1:9+0", 2, 0, 1);
        dueRow("lead(0, ) of two", way -> two.lead(0, way), 2, 9);
        dueRow("lead(1, ) of two", way -> two.lead(1, way), 2, 9);
        promise(24, "TURNS of the others, till none of them has a WAY of lesser PAY");
        dueRow("lead(0, ) from 1111", way -> four(1, 1, 1, 1).lead(0, way), 3, 4);
        dueRow("lead(3, ) from 1111", way -> four(1, 1, 1, 1).lead(3, way), 3, 4);
        SelfishWays gives = on("2;0>1:0+3;0>1:1+3", 2, 0, 1);
        dueRow("lead(1, ): the other one gives way", way -> gives.lead(1, way), 3, 4);
        SelfishWays most = on("2;0>1:20+9", 5, 0, 1);
        due("lead(4, 0) of five", most.lead(4, 0), 65);
    }

    private void leadFromTheSetAsItIs() {
        promise(24, "from the SET as it is else");
        dueRow("lead(0, ) from 0000", way -> four(0, 0, 0, 0).lead(0, way), 4, 4);
        dueRow("lead(0, ) from 1000", way -> four(1, 0, 0, 0).lead(0, way), 4, 4);
        dueRow("lead(0, ) from 0011", way -> four(0, 0, 1, 1).lead(0, way), 3, 4);
        promise(24, "PAY of a PLAYER in the end");
        SelfishWays x = four(1, 1, 1, 1);
        x.mode(2);
        // Two on the first road pay 3 each, a third one would pay 5.
        dueRow("lead(0, ) by MODE 2", way -> x.lead(0, way), 3, 4);
        x.mode(1);
        x.put(0, 2, 2);
        // The second one would pay 4 then, as now: it stays.
        dueRow("lead(0, ) by MODE 1", way -> x.lead(0, way), 3, 4);
    }

    private void leadTellsOnly() {
        promise(24, "(the SET stays as it is)");
        tellsOnly("lead(0, 0)", () -> four(1, 1, 1, 1), x -> x.lead(0, 0), 3);
        tellsOnly("lead(3, 1)", () -> four(1, 1, 1, 1), x -> x.lead(3, 1), 4);
        tellsOnly("lead(2, 1)", () -> four(0, 0, 0, 0), x -> x.lead(2, 1), 4);
    }

    // ---- promise 25

    private void leadsOfSeveralTheFirst() {
        promise(25, "The WAY by which that is least (of several the first)");
        due("leads(0): 4 and 4", four(0, 0, 0, 0).leads(0), 0);
        due("leads(0): 4 and 4, and it takes the second", four(1, 0, 0, 0).leads(0), 0);
        due("leads(0): 3 and 4", four(1, 1, 1, 1).leads(0), 0);
        SelfishWays x = on("2;0>1:3+0;0>1:2+0;0>1:2+0", 1, 0, 1);
        for (int way = 0; way <= 2; way++) {
            x.set(0, way);
            due("leads(0): 3, 2, 2", x.leads(0), 1);
        }
        x.put(2, 0, 1);
        due("leads(0): the last", x.leads(0), 2);
        due("leads(0) of one way", on("2;0>1:3+1", 1, 0, 1).leads(0), 0);
        tellsOnly("leads(0)", () -> four(1, 1, 1, 1), y -> y.leads(0), 0);
        tellsOnly("leads(3)", () -> four(0, 1, 1, 1), y -> y.leads(3), 0);
    }

    private void leadsUnknown() {
        promise(25, "UNKNOWN: player");
        for (int player : new int[] {-1, 3, 5, Integer.MIN_VALUE, Integer.MAX_VALUE}) {
            refused("leads(" + player + ")", Boundary::furnished, x -> x.leads(player), UNKNOWN);
        }
        refused("leads(0) with nobody", () -> on(TWO_ROADS), x -> x.leads(0), UNKNOWN);
        refused("leads(0) without net", SelfishWays::new, x -> x.leads(0), UNKNOWN);
    }

    // ---- promise 26

    private static SelfishWays followed(SelfishWays x, int player) {
        x.follow(player);
        return x;
    }

    private void followEnds() {
        promise(26, "the SET is as it is in the end: its PAY then");
        SelfishWays x = four(1, 1, 1, 1);
        due("follow(0)", x.follow(0), 3);
        dueSet("follow(0)", x, 0, 0, 0, 1);
        due("who(0, 4)", x.who(0, 4), 3);
        due("count(6): no turns", x.count(6), 0);
        dueAlike("follow(0)", followed(four(1, 1, 1, 1), 0), four(0, 0, 0, 1));
        SelfishWays last = four(1, 1, 1, 1);
        due("follow(3)", last.follow(3), 3);
        dueSet("follow(3)", last, 0, 0, 1, 0);
        SelfishWays tie = four(1, 0, 0, 0);
        due("follow(0): 4 and 4, the first", tie.follow(0), 4);
        dueSet("follow(0): 4 and 4, the first", tie, 0, 0, 0, 0);
        SelfishWays gives = on("2;0>1:0+3;0>1:1+3", 2, 0, 1);
        due("follow(1): the other one gives way", gives.follow(1), 3);
        dueSet("follow(1): the other one gives way", gives, 1, 0);
        tellsOnly("follow(0) of one way", () -> on("2;0>1:3+1", 1, 0, 1), y -> y.follow(0), 4);
        tellsOnly("follow(0) at rest", () -> four(0, 0, 0, 0), y -> y.follow(0), 4);
    }

    private void followUnknown() {
        promise(26, "UNKNOWN: player");
        for (int player : new int[] {-1, 3, 5, Integer.MIN_VALUE, Integer.MAX_VALUE}) {
            refused("follow(" + player + ")", Boundary::furnished, x -> x.follow(player), UNKNOWN);
        }
        refused("follow(0) with nobody", () -> on(TWO_ROADS), x -> x.follow(0), UNKNOWN);
        refused("follow(0) without net", SelfishWays::new, x -> x.follow(0), UNKNOWN);
    }

    private void leadingAbove500() {
        promise(24, "PAY of a PLAYER in the end, if it LEADS by a WAY");
        SelfishWays x = on(EIGHT_ALIKE, 3, 0, 1);
        dueRow("lead(0, ) of 512 sets", way -> x.lead(0, way), 1, 1, 1, 1, 1, 1, 1, 1);
        promise(25, "The WAY by which that is least");
        due("leads(2) of 512 sets", x.leads(2), 0);
        promise(26, "A PLAYER LEADS by that WAY");
        due("follow(2) of 512 sets", x.follow(2), 1);
        // The last one takes the first road, and the first player the least free one then.
        dueSet("follow(2) of 512 sets", x, 2, 1, 0);
    }
}
