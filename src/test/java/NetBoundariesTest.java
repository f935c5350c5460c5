/** Promises 6 to 9: each sentence of theirs that names a boundary. */
public final class NetBoundariesTest extends Boundary {
    private static final String DEAREST = "2;0>1:20+9";
    private static final String FREE = "2;0>1:0+0;0>1:0+0";
    private static final String TWELVE_WAYS = "3" + ";0>1:0+1".repeat(3) + ";1>2:0+1".repeat(4);

    public static void main(String[] args) {
        NetBoundariesTest test = new NetBoundariesTest();
        test.hold(6, 9,
                test::aboutOutside, test::aboutWithoutNet, test::aboutNobody, test::aboutAtTheMost,
                test::aboutNothingToPay, test::aboutResting, test::aboutSocialAndMode,
                test::aboutGreatestLoad, test::roadUnknown, test::roadOutside, test::roadTellsEach,
                test::roadWithNobody, test::roadByLoad, test::putLimits, test::putOutside,
                test::putUnknown, test::putChangesOneNumber, test::putAtEachLimitPays,
                test::modeLimits, test::modeOutside, test::modeWithoutNet,
                test::modeTurnsTollsOnAndOff);
    }

    // ---- promise 6

    private void aboutOutside() {
        promise(6, "OUTSIDE");
        for (int what : new int[] {-1, 8, 9}) {
            refused("about(" + what + ")", Boundary::furnished, x -> x.about(what), OUTSIDE);
        }
        for (int what : FAR) {
            due("about(" + what + ")", furnished().about(what), OUTSIDE);
        }
    }

    private void aboutWithoutNet() {
        promise(6, "STATE: no NET");
        for (int what = 0; what <= 7; what++) {
            int asked = what;
            refused("about(" + what + ")", SelfishWays::new, x -> x.about(asked), STATE);
            refused("about(" + what + ") of a page alone", () -> page(TWO_ROADS), x -> x.about(asked), STATE);
        }
        promise(6, "OUTSIDE; STATE: no NET");
        due("about(-1)", new SelfishWays().about(-1), OUTSIDE);
        due("about(8)", new SelfishWays().about(8), OUTSIDE);
    }

    private void aboutNobody() {
        promise(6, "3 SOCIAL, 4 POTENTIAL, 5 whether it RESTS (1, 0), 6 how many ALL SETS are, "
                + "7 the greatest LOAD");
        SelfishWays x = on(BRAESS);
        int[] nobody = {4, 5, 0, 0, 0, 1, 1, 0};
        dueRow("about() with nobody", x::about, nobody);
        x.player(0, 3);
        dueRow("about() with one", x::about, 4, 5, 0, 9, 9, 1, 3, 1);
        x.drop();
        dueRow("about() with nobody again", x::about, nobody);
    }

    private void aboutAtTheMost() {
        promise(6, "3 SOCIAL, 4 POTENTIAL");
        SelfishWays x = on("6;0>1:20+9;1>2:20+9;2>3:20+9;3>4:20+9;4>5:20+9", 5, 0, 5);
        for (int road = 0; road < 5; road++) {
            x.put(road, 2, 40);
        }
        due("about(3)", x.about(3), 5 * 5 * (20 + 45));
        due("about(4) by MODE 0", x.about(4), 5 * (29 + 38 + 47 + 56 + 65));
        x.mode(1);
        due("about(3) by MODE 1", x.about(3), 5 * 5 * (20 + 45));
        due("about(4) by MODE 1", x.about(4), 5 * (69 + 78 + 87 + 96 + 105));
        x.mode(2);
        due("about(3) by MODE 2", x.about(3), 5 * 5 * (20 + 45));
        due("about(4) by MODE 2", x.about(4), 5 * (29 + 47 + 65 + 83 + 101));
        promise(6, "6 how many ALL SETS are");
        SelfishWays many = on(TWELVE_WAYS);
        int sets = 1;
        for (int player = 0; player < 5; player++) {
            due("about(6)", many.about(6), sets);
            many.player(0, 2);
            sets *= 12;
        }
        due("about(6), the most", many.about(6), 248832);
    }

    private void aboutNothingToPay() {
        promise(6, "3 SOCIAL, 4 POTENTIAL, 5 whether it RESTS");
        SelfishWays x = on(FREE, 5, 0, 1);
        dueRow("about() where nothing is paid", x::about, 2, 2, 0, 0, 0, 1, 32, 5);
        x.mode(2);
        dueRow("about() by MODE 2", x::about, 2, 2, 2, 0, 0, 1, 32, 5);
    }

    private void aboutResting() {
        promise(6, "5 whether it RESTS (1, 0) ... It RESTS, if nobody has a WAY of lesser PAY");
        due("about(5): 4 against 4", four(0, 0, 0, 0).about(5), 1);
        due("about(5): as dear, from the other side", four(1, 0, 0, 0).about(5), 1);
        due("about(5): 4 against 3, two would", four(1, 1, 0, 0).about(5), 0);
        SelfishWays x = four(0, 0, 0, 0);
        x.put(1, 0, 3);
        due("about(5): 4 against 3", x.about(5), 0);
        SelfishWays first = on("3;0>1:1+0;0>1:0+0;1>2:0+0", 1, 0, 1);
        first.player(1, 2);
        first.set(0, 0);
        due("about(5): the first one alone would", first.about(5), 0);
        SelfishWays last = on("3;0>1:0+0;1>2:0+0;1>2:1+0", 1, 0, 1);
        last.player(1, 2);
        last.set(1, 1);
        due("about(5): the last one alone would", last.about(5), 0);
        last.set(1, 0);
        due("about(5): nobody would", last.about(5), 1);
    }

    private void aboutSocialAndMode() {
        promise(6, "SOCIAL ... (whatever MODE is)");
        SelfishWays x = four(0, 0, 1, 1);
        x.put(0, 2, 40);
        x.put(1, 2, 40);
        for (int mode = 0; mode <= 2; mode++) {
            x.mode(mode);
            due("about(3) by MODE " + mode, x.about(3), 2 * 2 + 2 * 4);
        }
        promise(6, "POTENTIAL: ... for each K from 1 to its LOAD");
        int[] want = {1 + 2 + 8, 1 + 2 + 8 + 160, 1 + 3 + 8};
        for (int mode = 0; mode <= 2; mode++) {
            x.mode(mode);
            due("about(4) by MODE " + mode, x.about(4), want[mode]);
        }
    }

    private void aboutGreatestLoad() {
        promise(6, "7 the greatest LOAD");
        due("about(7): two and two", four(0, 0, 1, 1).about(7), 2);
        due("about(7): on the first road", four(0, 0, 0, 1).about(7), 3);
        due("about(7): on the last road", four(1, 1, 1, 0).about(7), 3);
        due("about(7): the most", on(DEAREST, 5, 0, 1).about(7), 5);
    }

    // ---- promise 7

    private void roadUnknown() {
        promise(7, "UNKNOWN: road (or there is no NET)");
        for (int road : new int[] {-1, 5, 9, 10}) {
            refused("road(" + road + ", 0)", Boundary::furnished, x -> x.road(road, 0), UNKNOWN);
        }
        for (int road : FAR) {
            due("road(" + road + ", 0)", furnished().road(road, 0), UNKNOWN);
        }
        SelfishWays ten = on("2" + ";0>1:0+0".repeat(10));
        due("road(9, 1) of ten", ten.road(9, 1), 1);
        due("road(10, 1) of ten", ten.road(10, 1), UNKNOWN);
        for (int what = 0; what <= 7; what++) {
            due("road(0, " + what + ") without net", new SelfishWays().road(0, what), UNKNOWN);
        }
        promise(7, "UNKNOWN: road (or there is no NET); OUTSIDE");
        due("road(-1, -1)", furnished().road(-1, -1), UNKNOWN);
        due("road(5, 8)", furnished().road(5, 8), UNKNOWN);
        due("road(0, 8) without net", new SelfishWays().road(0, 8), UNKNOWN);
    }

    private void roadOutside() {
        promise(7, "OUTSIDE");
        for (int what : new int[] {-1, 8, 9}) {
            refused("road(4, " + what + ")", Boundary::furnished, x -> x.road(4, what), OUTSIDE);
        }
        for (int what : FAR) {
            due("road(0, " + what + ")", furnished().road(0, what), OUTSIDE);
        }
    }

    private void roadTellsEach() {
        promise(7, "what = 0 FROM, 1 TO, 2 A, 3 B, 4 T, 5 LOAD, 6 what a PLAYER pays there");
        SelfishWays x = on("6;5>0:20+9;0>5:0+0;2>4:7+3", 1, 2, 4);
        x.put(2, 2, 40);
        x.mode(1);
        dueRow("road(0, )", what -> x.road(0, what), 5, 0, 20, 9, 0, 0, NONE, 29);
        dueRow("road(1, )", what -> x.road(1, what), 0, 5, 0, 0, 0, 0, NONE, 0);
        dueRow("road(2, )", what -> x.road(2, what), 2, 4, 7, 3, 40, 1, 50, 53);
        tellsOnly("road(2, 7)", Boundary::furnished, y -> y.road(2, 7), 20);
    }

    private void roadWithNobody() {
        promise(7, "6 what a PLAYER pays there (NONE: nobody is on it)");
        SelfishWays x = on(FREE);
        due("road(0, 6) with nobody", x.road(0, 6), NONE);
        due("road(0, 7) with nobody", x.road(0, 7), 0);
        x.player(0, 1);
        due("road(0, 6): somebody, for nothing", x.road(0, 6), 0);
        due("road(1, 6) with nobody on it", x.road(1, 6), NONE);
        x.set(0, 1);
        due("road(0, 6): it is gone", x.road(0, 6), NONE);
        due("road(1, 6): it is there", x.road(1, 6), 0);
        x.drop();
        due("road(1, 6): nobody any more", x.road(1, 6), NONE);
    }

    private void roadByLoad() {
        promise(7, "6 what a PLAYER pays there ... 7 what a PLAYER would pay there, if one more were on it");
        SelfishWays x = on(DEAREST);
        x.put(0, 2, 40);
        for (int k = 0; k <= 5; k++) {
            int[] pays = {20 + 9 * k, 60 + 9 * k, 20 + 9 * k + 9 * (k - 1)};
            int[] more = {29 + 9 * k, 69 + 9 * k, 29 + 18 * k};
            for (int mode = 0; mode <= 2; mode++) {
                x.mode(mode);
                due("road(0, 5) with " + k, x.road(0, 5), k);
                due("road(0, 6) with " + k + " by MODE " + mode, x.road(0, 6), k == 0 ? NONE : pays[mode]);
                due("road(0, 7) with " + k + " by MODE " + mode, x.road(0, 7), more[mode]);
            }
            x.player(0, 1);
        }
    }

    // ---- promise 8

    private void putLimits() {
        promise(8, "A ROAD gets another A (what = 0), B (1), T (2): which it had");
        SelfishWays x = on("2;0>1:7+3;0>1:8+4");
        int[] had = {8, 4, 0};
        int[] most = {20, 9, 40};
        for (int what = 0; what <= 2; what++) {
            due("put(1, " + what + ", the most)", x.put(1, what, most[what]), had[what]);
            due("road(1, ) then", x.road(1, 2 + what), most[what]);
            due("put(1, " + what + ", 0)", x.put(1, what, 0), most[what]);
            due("put(1, " + what + ", 0) again", x.put(1, what, 0), 0);
            due("road(1, ) then", x.road(1, 2 + what), 0);
            due("put(1, " + what + ", 1)", x.put(1, what, 1), 0);
        }
        dueRow("road(0, ): the other one", what -> x.road(0, what), 0, 1, 7, 3, 0);
        dueRow("road(1, )", what -> x.road(1, what), 0, 1, 1, 1, 1);
    }

    private void putOutside() {
        promise(8, "OUTSIDE: what, v (0 to 20, 0 to 9, 0 to 40)");
        int[] most = {20, 9, 40};
        for (int what = 0; what <= 2; what++) {
            int asked = what;
            int above = most[what] + 1;
            refused("put(4, " + what + ", -1)", Boundary::furnished, x -> x.put(4, asked, -1), OUTSIDE);
            refused("put(4, " + what + ", " + above + ")", Boundary::furnished,
                    x -> x.put(4, asked, above), OUTSIDE);
            for (int v : FAR) {
                due("put(4, " + what + ", " + v + ")", furnished().put(4, asked, v), OUTSIDE);
            }
        }
        for (int what : new int[] {-1, 3, 4, 5, Integer.MIN_VALUE, Integer.MAX_VALUE}) {
            refused("put(4, " + what + ", 0)", Boundary::furnished, x -> x.put(4, what, 0), OUTSIDE);
        }
        due("put(0, 1, 20): A's most is none of B's", furnished().put(0, 1, 20), OUTSIDE);
        due("put(0, 0, 40): T's most is none of A's", furnished().put(0, 0, 40), OUTSIDE);
        due("put(0, 2, 21): above A's most", furnished().put(0, 2, 21), 0);
        due("put(0, 0, 10): above B's most", furnished().put(0, 0, 10), 0);
    }

    private void putUnknown() {
        promise(8, "UNKNOWN: road (or there is no NET)");
        for (int road : new int[] {-1, 5, 10, Integer.MIN_VALUE, Integer.MAX_VALUE}) {
            refused("put(" + road + ", 0, 1)", Boundary::furnished, x -> x.put(road, 0, 1), UNKNOWN);
        }
        for (int what = 0; what <= 2; what++) {
            int asked = what;
            refused("put(0, " + what + ", 1) without net", SelfishWays::new,
                    x -> x.put(0, asked, 1), UNKNOWN);
        }
        promise(8, "UNKNOWN: road (or there is no NET); OUTSIDE: what, v");
        due("put(5, 3, 0)", furnished().put(5, 3, 0), UNKNOWN);
        due("put(-1, 0, 21)", furnished().put(-1, 0, 21), UNKNOWN);
        due("put(0, 3, 0) without net", new SelfishWays().put(0, 3, 0), UNKNOWN);
        due("put(0, 0, -1) without net", new SelfishWays().put(0, 0, -1), UNKNOWN);
    }

    private void putChangesOneNumber() {
        promise(8, "A ROAD gets another");
        SelfishWays x = four(0, 0, 0, 0);
        x.put(0, 0, 20);
        dueSet("put() moves nobody", x, 0, 0, 0, 0);
        due("who(0, 4)", x.who(0, 4), 24);
        due("who(0, 5)", x.who(0, 5), 1);
        due("about(5)", x.about(5), 0);
        SelfishWays toll = four(0, 0, 0, 0);
        toll.put(0, 2, 40);
        due("who(0, 4) by MODE 0 with T", toll.who(0, 4), 4);
        SelfishWays back = furnished();
        back.put(2, 1, 9);
        back.put(2, 1, 0);
        dueAlike("put() there and back", back, furnished());
    }

    private void putAtEachLimitPays() {
        promise(8, "(0 to 20, 0 to 9, 0 to 40)");
        SelfishWays x = on("2;0>1:3+3", 5, 0, 1);
        x.put(0, 0, 20);
        x.put(0, 1, 9);
        x.put(0, 2, 40);
        x.mode(1);
        due("pay(4, 0) at the most", x.pay(4, 0), 20 + 45 + 40);
        x.put(0, 0, 0);
        x.put(0, 1, 0);
        x.put(0, 2, 0);
        due("pay(4, 0) at the least", x.pay(4, 0), 0);
    }

    // ---- promise 9

    private void modeLimits() {
        promise(9, "There is another MODE: which it was");
        SelfishWays x = on(TWO_ROADS);
        for (int was = 0; was <= 2; was++) {
            for (int mode = 0; mode <= 2; mode++) {
                x.mode(was);
                due("mode(" + mode + ")", x.mode(mode), was);
                due("about(2)", x.about(2), mode);
                due("mode(" + mode + ") again", x.mode(mode), mode);
            }
        }
    }

    private void modeOutside() {
        promise(9, "OUTSIDE: mode (0 to 2)");
        for (int mode : new int[] {-1, 3, 4, Integer.MIN_VALUE, Integer.MAX_VALUE}) {
            refused("mode(" + mode + ")", Boundary::furnished, x -> x.mode(mode), OUTSIDE);
            refused("mode(" + mode + ") without net", SelfishWays::new, x -> x.mode(mode), OUTSIDE);
        }
    }

    private void modeWithoutNet() {
        promise(9, "There is another MODE");
        SelfishWays x = new SelfishWays();
        due("mode(2) without net", x.mode(2), 0);
        type(x, "2;0>1:3+5");
        x.net();
        due("about(2)", x.about(2), 2);
        come(x, 3, 0, 1);
        due("pay(0, 0) by MODE 2", x.pay(0, 0), 3 + 15 + 10);
        type(x, "2;0>1:3+5");
        x.net();
        due("about(2) behind another net", x.about(2), 2);
    }

    private void modeTurnsTollsOnAndOff() {
        promise(9, "MODE: 0 no tolls; 1 FIXED tolls; 2 tolls by OTHERS");
        SelfishWays x = on("2;0>1:3+5", 1, 0, 1);
        x.put(0, 2, 11);
        int[] alone = {8, 19, 8};
        int[] withOne = {13, 24, 18};
        for (int mode = 0; mode <= 2; mode++) {
            x.mode(mode);
            due("pay(0, 0) alone by MODE " + mode, x.pay(0, 0), alone[mode]);
        }
        x.player(0, 1);
        for (int mode = 2; mode >= 0; mode--) {
            x.mode(mode);
            due("pay(0, 0) with another one by MODE " + mode, x.pay(0, 0), withOne[mode]);
        }
        SelfishWays back = furnished();
        back.mode(2);
        back.mode(1);
        dueAlike("mode() there and back", back, furnished());
    }
}
