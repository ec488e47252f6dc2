/** The edges of what Terms 4 say of ships, goods and coin, and of promises 21 to 28. */
final class PortEdgesTests {
    private static final Check CHECK = new Check("PortEdgesTests");
    private static final Edges NEW = new Edges(CHECK, FreeCity::new);
    private static final Edges LIVELY = new Edges(CHECK, Cities::lively);
    private static final Edges FULL = new Edges(CHECK, Cities::crammed);

    public static void main(String[] args) {
        shipBounds();
        shipFull();
        berthBounds();
        berthGrounds();
        berthOfAnother();
        berthOfThoseElsewhere();
        leaveBounds();
        leaveStates();
        leaveAnswers();
        goodsBounds();
        goodsStates();
        goodsToTheLast();
        coinBounds();
        coinStates();
        coinByTariff();
        coinThrough();
        tariffBounds();
        tariffWhatItWas();
        shareAlike();
        shareByParts();
        shareOfLikeRemainders();
        shareOfMuch();
        shareAgain();
        wholeNoneSuch();
        wholeSpots();
        CHECK.end();
    }

    private static void shipBounds() {
        LIVELY.bounds("p21 ship's good", 0, 3, -1, (x, n) -> x.ship(n, 5));
        LIVELY.bounds("p21 ship's tons", 1, 999, -2, (x, n) -> x.ship(0, n));
        NEW.bounds("p21 ship's good", 0, 3, -1, (x, n) -> x.ship(n, 999));
        LIVELY.refused("p21 NONE ahead of BAD", -1, x -> x.ship(4, 1000));
        LIVELY.refused("p21 NONE ahead of BAD", -1, x -> x.ship(-1, 0));
    }

    private static void shipFull() {
        FULL.refused("p21 FULL", -4, x -> x.ship(0, 5));
        FULL.refused("p21 NONE ahead of FULL", -1, x -> x.ship(4, 5));
        FULL.refused("p21 BAD ahead of FULL", -2, x -> x.ship(0, 1000));
        FreeCity x = new FreeCity();
        for (int ship = 0; ship < 12; ship++) {
            CHECK.due("t4 a refused SHIP has no number", x.ship(0, 0), -2);
            CHECK.due("t4 SHIPS 0 .. 11, as they come", x.ship(ship % 4, 1 + ship), ship);
            CHECK.due("t4 in the roads at first", x.whole(5, ship), -2);
            CHECK.due("t4 so many TONS", x.whole(4, ship), 1 + ship);
        }
        x.leave(0, 1);
        x.leave(1, 2);
        CHECK.due("p21 FULL, though two are gone and seized", x.ship(0, 5), -4);
    }

    private static void berthBounds() {
        LIVELY.beyond("p22 berth's ship", 0, 3, -1, (x, n) -> x.berth(n, 1));
        LIVELY.within("p22 berth's ship", 1, 1, (x, n) -> x.berth(n, 1));
        Edges quays = new Edges(CHECK, () -> {
            FreeCity x = new FreeCity();
            x.yard(0, 1);
            x.yard(29, 2);
            x.ship(0, 1);
            return x;
        });
        quays.bounds("p22 berth's spot", 0, 29, -1, (x, n) -> x.berth(0, n));
        LIVELY.refused("p22 NONE ship ahead of STATE", -1, x -> x.berth(4, 4));
        LIVELY.refused("p22 NONE spot ahead of STATE: not in the roads", -1, x -> x.berth(0, 30));
        LIVELY.refused("p22 NONE spot ahead of STATE: gone", -1, x -> x.berth(2, -1));
        NEW.refused("p22 no SHIPS yet", -1, x -> x.berth(0, 0));
    }

    private static void berthGrounds() {
        for (int ground = 0; ground <= 5; ground++) {
            int told = ground;
            Edges yard = new Edges(CHECK, () -> {
                FreeCity x = new FreeCity();
                x.yard(14, told);
                x.ship(3, 7);
                return x;
            });
            if (ground == 1 || ground == 2) {
                yard.within("p22 a BERTH on ground " + ground, 14, 14, (x, n) -> x.berth(0, n));
            } else {
                yard.refused("p22 STATE: no QUAY, no DOCK but " + ground, -3, x -> x.berth(0, 14));
            }
        }
    }

    private static void berthOfAnother() {
        LIVELY.refused("p22 STATE: another one is there", -3, x -> x.berth(1, 0));
        for (int how = 0; how < 3; how++) {
            FreeCity x = Cities.lively();
            x.leave(0, how);
            CHECK.due("p22 none is there, left by " + how, x.berth(1, 0), 1);
            CHECK.due("p22 its SPOT", x.whole(5, 1), 0);
        }
        FreeCity x = Cities.lively();
        CHECK.due("p22 beside another one", x.berth(1, 6), 1);
        CHECK.due("p22 each at its own", x.whole(5, 0) * 10 + x.whole(5, 1), 6);
    }

    private static void berthOfThoseElsewhere() {
        LIVELY.refused("p22 STATE: it is at a BERTH", -3, x -> x.berth(0, 1));
        LIVELY.refused("p22 STATE: it is at this BERTH", -3, x -> x.berth(0, 0));
        LIVELY.refused("p22 STATE: it is gone", -3, x -> x.berth(2, 1));
        LIVELY.refused("p22 STATE: it is seized", -3, x -> x.berth(3, 1));
        FreeCity x = Cities.lively();
        x.leave(0, 0);
        CHECK.due("p22 it went back to the roads", x.berth(0, 1), 1);
    }

    private static void leaveBounds() {
        LIVELY.bounds("p23 leave's how", 0, 2, -1, (x, n) -> x.leave(0, n));
        LIVELY.within("p23 leave's ship", 0, 1, (x, n) -> x.leave(n, 1));
        LIVELY.beyond("p23 leave's ship", 0, 3, -1, (x, n) -> x.leave(n, 1));
        LIVELY.refused("p23 NONE how ahead of STATE: gone", -1, x -> x.leave(2, 3));
        LIVELY.refused("p23 NONE how ahead of STATE: seized", -1, x -> x.leave(3, -1));
        LIVELY.refused("p23 NONE how ahead of STATE: in the roads", -1, x -> x.leave(1, 3));
        NEW.refused("p23 no SHIPS yet", -1, x -> x.leave(0, 1));
    }

    private static void leaveStates() {
        for (int how = 0; how < 3; how++) {
            int told = how;
            LIVELY.refused("p23 STATE: it is gone, " + how, -3, x -> x.leave(2, told));
            LIVELY.refused("p23 STATE: it is seized, " + how, -3, x -> x.leave(3, told));
        }
        LIVELY.refused("p23 STATE: in the roads already", -3, x -> x.leave(1, 0));
    }

    private static void leaveAnswers() {
        int[] places = {-2, -3, -4};
        for (int how = 0; how < 3; how++) {
            FreeCity x = Cities.lively();
            CHECK.due("p23 TONS aboard, from a BERTH by " + how, x.leave(0, how), 40);
            CHECK.due("p28 its SPOT then", x.whole(5, 0), places[how]);
            CHECK.due("p28 its TONS then", x.whole(4, 0), 40);
            if (how > 0) {
                CHECK.due("p23 TONS aboard, from the roads by " + how, x.leave(1, how), 40);
                CHECK.due("p28 its SPOT then", x.whole(5, 1), places[how]);
            }
        }
        FreeCity x = Cities.lively();
        x.goods(0, 40);
        CHECK.due("p23 no TONS aboard", x.leave(0, 0), 0);
    }

    private static FreeCity laden() {
        FreeCity x = new FreeCity();
        x.yard(0, 1);
        x.yard(29, 2);
        x.ship(1, 999);
        x.ship(1, 999);
        x.berth(0, 0);
        return x;
    }

    private static void goodsBounds() {
        Edges port = new Edges(CHECK, PortEdgesTests::laden);
        port.bounds("p24 goods' n", 1, 999, -2, (x, n) -> x.goods(0, n));
        port.beyond("p24 goods' ship", 0, 1, -1, (x, n) -> x.goods(n, 5));
        LIVELY.beyond("p24 goods' ship", 0, 3, -1, (x, n) -> x.goods(n, 5));
        port.refused("p24 NONE ahead of BAD", -1, x -> x.goods(2, 0));
        port.refused("p24 BAD ahead of STATE: no BERTH", -2, x -> x.goods(1, 1000));
        LIVELY.refused("p24 BAD ahead of STATE: gone", -2, x -> x.goods(2, 0));
        LIVELY.refused("p24 BAD ahead of STATE: not so many", -2, x -> x.goods(0, 1000));
    }

    private static void goodsStates() {
        LIVELY.refused("p24 STATE: in the roads", -3, x -> x.goods(1, 1));
        LIVELY.refused("p24 STATE: gone", -3, x -> x.goods(2, 1));
        LIVELY.refused("p24 STATE: seized", -3, x -> x.goods(3, 1));
        LIVELY.refused("p24 STATE: one more than aboard", -3, x -> x.goods(0, 41));
        LIVELY.refused("p24 STATE: many more than aboard", -3, x -> x.goods(0, 999));
        CHECK.due("p24 all that are aboard", Cities.lively().goods(0, 40), 15 + 5 + 35);
    }

    private static void goodsToTheLast() {
        FreeCity x = laden();
        CHECK.due("p24 TONS in BOND", x.goods(0, 998), 998);
        CHECK.due("p24 not two more", x.goods(0, 2), -3);
        CHECK.due("p24 the last one", x.goods(0, 1), 999);
        CHECK.due("p24 none is aboard", x.goods(0, 1), -3);
        CHECK.due("p28 none is aboard", x.whole(4, 0), 0);
        CHECK.due("p22 at SPOT 29", x.berth(1, 29), 1);
        CHECK.due("p24 of both SHIPS", x.goods(1, 999), 1998);
        CHECK.due("p28 of another GOOD none", x.whole(1, 0), 0);
        CHECK.due("t4 nothing comes of it yet", x.count(4), 0);
    }

    private static FreeCity bonded() {
        FreeCity x = laden();
        x.berth(1, 29);
        x.goods(0, 999);
        x.goods(1, 999);
        return x;
    }

    private static void coinBounds() {
        Edges port = new Edges(CHECK, PortEdgesTests::bonded);
        port.bounds("p25 coin's n, SOLD", 1, 999, -2, (x, n) -> x.coin(1, n, false));
        port.bounds("p25 coin's n, THROUGH", 1, 999, -2, (x, n) -> x.coin(1, n, true));
        port.beyond("p25 coin's good", 0, 3, -1, (x, n) -> x.coin(n, 5, false));
        port.refused("p25 NONE ahead of BAD", -1, x -> x.coin(4, 0, true));
        port.refused("p25 BAD ahead of STATE", -2, x -> x.coin(0, 0, false));
        port.refused("p25 BAD ahead of STATE", -2, x -> x.coin(0, 1000, true));
    }

    private static void coinStates() {
        for (int good : new int[] {0, 2, 3}) {
            LIVELY.refused("p25 STATE: none in BOND", -3, x -> x.coin(good, 1, false));
        }
        LIVELY.refused("p25 STATE: one more than in BOND, SOLD", -3, x -> x.coin(1, 16, false));
        LIVELY.refused("p25 STATE: one more than in BOND, THROUGH", -3, x -> x.coin(1, 16, true));
        CHECK.due("p25 all in BOND, SOLD", Cities.lively().coin(1, 15, false), 250);
        CHECK.due("p25 all in BOND, THROUGH", Cities.lively().coin(1, 15, true), 100);
        FreeCity x = bonded();
        CHECK.due("p25 SOLD", x.coin(1, 999, false), 9990);
        CHECK.due("p25 SOLD", x.coin(1, 998, false), 19970);
        CHECK.due("p25 not two more", x.coin(1, 2, false), -3);
        CHECK.due("p25 the last one", x.coin(1, 1, true), 19970);
        CHECK.due("p25 none is left", x.coin(1, 1, true), -3);
        CHECK.due("p28 SOLD", x.whole(2, 1), 1997);
        CHECK.due("p28 THROUGH", x.whole(3, 1), 1);
        CHECK.due("p28 BOND", x.whole(1, 1), 0);
    }

    private static void coinByTariff() {
        FreeCity x = bonded();
        x.tariff(0, 1, 99);
        CHECK.due("t4 TONS times TARIFF 99", x.coin(1, 999, false), 98901);
        x.tariff(0, 1, 0);
        CHECK.due("t4 TONS times TARIFF 0", x.coin(1, 500, false), 98901);
        x.tariff(0, 0, 50);
        x.tariff(0, 1, 1);
        CHECK.due("t4 by the TARIFF of its GOOD", x.coin(1, 7, false), 98908);
        CHECK.due("p49 THE CHEST", x.count(4), 98908);
    }

    private static void coinThrough() {
        FreeCity x = bonded();
        CHECK.due("t4 THROUGH: nothing comes", x.coin(1, 999, true), 0);
        CHECK.due("p28 THROUGH", x.whole(3, 1), 999);
        CHECK.due("p28 not SOLD", x.whole(2, 1), 0);
        CHECK.due("t4 SOLD", x.coin(1, 1, false), 10);
        CHECK.due("p28 SOLD", x.whole(2, 1), 1);
        CHECK.due("p28 BOND", x.whole(1, 1), 998);
    }

    private static void tariffBounds() {
        LIVELY.bounds("p26 a TARIFF", 0, 99, -2, (x, n) -> x.tariff(0, 3, n));
        LIVELY.bounds("p26 a PART", 0, 99, -2, (x, n) -> x.tariff(1, 2, n));
        LIVELY.bounds("p26 the GOOD", 0, 3, -1, (x, n) -> x.tariff(0, n, 5));
        LIVELY.bounds("p26 the SIDE", 0, 2, -1, (x, n) -> x.tariff(1, n, 5));
        LIVELY.bounds("p26 what", 0, 1, -1, (x, n) -> x.tariff(n, 0, 5));
        LIVELY.refused("p26 NONE what ahead of BAD", -1, x -> x.tariff(2, 0, 100));
        LIVELY.refused("p26 NONE GOOD ahead of BAD", -1, x -> x.tariff(0, 4, -1));
        LIVELY.refused("p26 NONE SIDE ahead of BAD", -1, x -> x.tariff(1, 3, 100));
    }

    private static void tariffWhatItWas() {
        FreeCity x = new FreeCity();
        for (int i = 0; i < 4; i++) {
            CHECK.due("p26 what it was", x.tariff(0, i, 20 + i), 10);
            CHECK.due("p26 what it was", x.tariff(0, i, 99), 20 + i);
        }
        for (int i = 0; i < 3; i++) {
            CHECK.due("p26 what it was", x.tariff(1, i, 30 + i), 1);
            CHECK.due("p26 what it was", x.tariff(1, i, 0), 30 + i);
        }
        CHECK.due("p26 a TARIFF is no PART", x.tariff(0, 0, 0), 99);
        CHECK.due("p26 a PART is no TARIFF", x.tariff(1, 0, 0), 0);
    }

    /** The purses when a chest is shared out by parts. */
    private static void parted(int chest, int[] parts, int... due) {
        FreeCity x = bonded();
        x.tariff(0, 1, 1);
        for (int rest = chest; rest > 0; rest -= Math.min(999, rest)) {
            x.coin(1, Math.min(999, rest), false);
        }
        for (int side = 0; side < 3; side++) {
            x.tariff(1, side, parts[side]);
        }
        CHECK.due("p27 what THE CHEST had", x.share(), chest);
        CHECK.due("t4 till it is whole", x.count(4), 0);
        for (int side = 0; side < 3; side++) {
            CHECK.due("t4 PURSE " + side + " of " + chest, x.whole(0, side), due[side]);
        }
    }

    private static void shareAlike() {
        int[][] alike = {{0, 0, 0}, {1, 1, 1}, {99, 99, 99}};
        for (int[] parts : alike) {
            parted(0, parts, 0, 0, 0);
            parted(1, parts, 1, 0, 0);
            parted(2, parts, 1, 1, 0);
            parted(3, parts, 1, 1, 1);
            parted(4, parts, 2, 1, 1);
            parted(5, parts, 2, 2, 1);
            parted(1000, parts, 334, 333, 333);
            parted(1001, parts, 334, 334, 333);
        }
    }

    private static void shareByParts() {
        parted(10, new int[] {99, 0, 0}, 10, 0, 0);
        parted(10, new int[] {0, 99, 0}, 0, 10, 0);
        parted(10, new int[] {0, 0, 1}, 0, 0, 10);
        parted(197, new int[] {99, 98, 0}, 99, 98, 0);
        // 100 by 1 : 1 : 99 is 100/101, 100/101, 98 2/101.
        parted(100, new int[] {1, 1, 99}, 1, 1, 98);
        // 50 by 1 : 1 : 99 is 50/101, 50/101, 49 1/101: one more to the least.
        parted(50, new int[] {1, 1, 99}, 1, 0, 49);
        // 10 by 4 : 2 : 1 is 5 5/7, 2 6/7, 1 3/7: one each to the second and the first.
        parted(10, new int[] {4, 2, 1}, 6, 3, 1);
        // 10 by 3 : 3 : 1 is 4 2/7, 4 2/7, 1 3/7: one more to the third.
        parted(10, new int[] {3, 3, 1}, 4, 4, 2);
        // 9 by 1 : 3 : 3 is 1 2/7, 3 6/7, 3 6/7: one more to each but the first.
        parted(9, new int[] {1, 3, 3}, 1, 4, 4);
        // 8 by 1 : 3 : 1 is 1 3/5, 4 4/5, 1 3/5: one to the second, one to the least of the others.
        parted(8, new int[] {1, 3, 1}, 2, 5, 1);
    }

    private static void shareOfLikeRemainders() {
        // 7 by 0 : 1 : 1 is 0, 3 1/2, 3 1/2: the SIDE without a part gets none.
        parted(7, new int[] {0, 1, 1}, 0, 4, 3);
        parted(7, new int[] {1, 0, 1}, 4, 0, 3);
        parted(7, new int[] {1, 1, 0}, 4, 3, 0);
        // 4 by 1 : 2 : 2 is 4/5, 1 3/5, 1 3/5: two are left, one to the first, one to the second.
        parted(4, new int[] {1, 2, 2}, 1, 2, 1);
        // 4 by 2 : 1 : 2: one to the second, one to the first.
        parted(4, new int[] {2, 1, 2}, 2, 1, 1);
    }

    private static void shareOfMuch() {
        FreeCity x = new FreeCity();
        for (int i = 0; i < 12; i++) {
            x.yard(i, 2);
            x.ship(0, 999);
            x.berth(i, i);
            x.goods(i, 999);
        }
        x.tariff(0, 0, 99);
        for (int i = 0; i < 12; i++) {
            x.coin(0, 999, false);
        }
        x.tariff(1, 0, 99);
        x.tariff(1, 1, 98);
        x.tariff(1, 2, 97);
        // 1186812 by 294: 4036 and 228 over; 99, 98 and 97 times 228 by 294 are 76 228/294, 76 0/294, 75 66/294.
        CHECK.due("p27 the fullest CHEST", x.share(), 1186812);
        CHECK.due("t4 the greatest remainder", x.whole(0, 0), 99 * 4036 + 77);
        CHECK.due("t4 cut", x.whole(0, 1), 98 * 4036 + 76);
        CHECK.due("t4 cut", x.whole(0, 2), 97 * 4036 + 75);
    }

    private static void shareAgain() {
        FreeCity x = bonded();
        x.tariff(0, 1, 1);
        CHECK.due("p27 an empty CHEST", x.share(), 0);
        x.coin(1, 4, false);
        CHECK.due("p27 four", x.share(), 4);
        CHECK.due("p27 none again", x.share(), 0);
        x.coin(1, 5, false);
        CHECK.due("p27 five", x.share(), 5);
        CHECK.due("t4 each SIDE's PURSE has both", x.whole(0, 0), 2 + 2);
        CHECK.due("t4 each SIDE's PURSE has both", x.whole(0, 1), 1 + 2);
        CHECK.due("t4 each SIDE's PURSE has both", x.whole(0, 2), 1 + 1);
    }

    private static void wholeNoneSuch() {
        int[] most = {2, 3, 3, 3, 3, 3};
        for (int what = 0; what <= 5; what++) {
            int asked = what;
            LIVELY.beyond("p28 none such: " + what, 0, most[what], -5, (x, n) -> x.whole(asked, n));
        }
        for (int ship = 0; ship < 12; ship++) {
            CHECK.due("p28 no SHIP yet: its TONS", new FreeCity().whole(4, ship), -5);
            CHECK.due("p28 no SHIP yet: its SPOT", new FreeCity().whole(5, ship), -5);
        }
        LIVELY.beyond("p28 none such: what", 0, 5, -5, (x, n) -> x.whole(n, 0));
        LIVELY.refused("p28 none such: both", -5, x -> x.whole(6, 12));
        FULL.within("p28 the last SHIP's TONS", 0, 11, (x, n) -> x.whole(4, n));
        FULL.refused("p28 no SHIP 12", -5, x -> x.whole(4, 12));
        FULL.refused("p28 no SHIP 12", -5, x -> x.whole(5, 12));
    }

    private static void wholeSpots() {
        int[][] due = {{67, 67, 66}, {0, 15, 0, 0}, {0, 30, 0, 0}, {0, 5, 0, 0}, {40, 40, 5, 999}, {0, -2, -3, -4}};
        FreeCity x = Cities.lively();
        for (int what = 0; what <= 5; what++) {
            for (int which = 0; which < due[what].length; which++) {
                CHECK.due("p28 what " + what + " of " + which, x.whole(what, which), due[what][which]);
            }
        }
        x.berth(1, 6);
        CHECK.due("p28 its SPOT", x.whole(5, 1), 6);
        FreeCity y = laden();
        y.berth(1, 29);
        CHECK.due("p28 the last SPOT", y.whole(5, 1), 29);
    }
}
