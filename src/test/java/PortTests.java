/** Promises 21 to 31: ships, goods, coin, firms. */
final class PortTests {
    private static final Check CHECK = new Check("PortTests");

    public static void main(String[] args) {
        ship();
        berth();
        leave();
        goods();
        coin();
        tariff();
        share();
        shareByParts();
        whole();
        firm();
        used();
        left();
        CHECK.end();
    }

    /** A quay at 0 and a dock at 1; ship 0 with 100 tons of good 2 at the quay. */
    private static FreeCity harbour() {
        FreeCity x = new FreeCity();
        x.yard(0, 1);
        x.yard(1, 2);
        x.ship(2, 100);
        x.berth(0, 0);
        return x;
    }

    private static void ship() {
        FreeCity x = new FreeCity();
        CHECK.due("p21 good ahead of tons", x.ship(4, 0), -1);
        CHECK.due("p21 good", x.ship(-1, 5), -1);
        CHECK.due("p21 tons", x.ship(0, 0), -2);
        CHECK.due("p21 tons", x.ship(0, 1000), -2);
        for (int i = 0; i < 12; i++) {
            CHECK.due("p21 ship", x.ship(i % 4, i == 0 ? 999 : 1), i);
        }
        CHECK.due("p21 full", x.ship(0, 5), -4);
        CHECK.due("p21 bad ahead of full", x.ship(0, 1000), -2);
        CHECK.due("p21 twelve", x.count(3), 12);
        CHECK.due("p21 in the roads", x.whole(5, 11), -2);
    }

    private static void berth() {
        FreeCity x = harbour();
        x.ship(0, 10);
        CHECK.due("p22 no ship", x.berth(2, 1), -1);
        CHECK.due("p22 no ship", x.berth(-1, 1), -1);
        CHECK.due("p22 no spot", x.berth(1, 30), -1);
        CHECK.due("p22 a street", x.berth(1, 2), -3);
        CHECK.due("p22 another one is there", x.berth(1, 0), -3);
        CHECK.due("p22 not in the roads", x.berth(0, 1), -3);
        CHECK.due("p22 not in the roads", x.berth(0, 0), -3);
        for (int ground = 3; ground <= 5; ground++) {
            x.yard(3, ground);
            CHECK.due("p22 ground " + ground, x.berth(1, 3), -3);
        }
        CHECK.due("p22 they stay", x.whole(5, 1), -2);
        CHECK.due("p22 a dock", x.berth(1, 1), 1);
        CHECK.due("p22 its spot", x.whole(5, 1), 1);
        x.leave(0, 1);
        x.ship(0, 10);
        CHECK.due("p22 where one is gone", x.berth(2, 0), 1);
        x.leave(2, 2);
        CHECK.due("p22 a seized one", x.berth(2, 0), -3);
        CHECK.due("p22 a gone one", x.berth(0, 0), -3);
    }

    private static void leave() {
        FreeCity x = harbour();
        x.ship(0, 10);
        CHECK.due("p23 no ship", x.leave(2, 0), -1);
        CHECK.due("p23 how", x.leave(0, 3), -1);
        CHECK.due("p23 how", x.leave(0, -1), -1);
        CHECK.due("p23 in the roads already", x.leave(1, 0), -3);
        x.goods(0, 30);
        CHECK.due("p23 tons aboard", x.leave(0, 0), 70);
        CHECK.due("p23 in the roads", x.whole(5, 0), -2);
        CHECK.due("p23 it may come again", x.berth(0, 0), 1);
        CHECK.due("p23 gone", x.leave(0, 1), 70);
        CHECK.due("p23 gone", x.whole(5, 0), -3);
        CHECK.due("p23 what it has it keeps", x.whole(4, 0), 70);
        CHECK.due("p23 seized from the roads", x.leave(1, 2), 10);
        CHECK.due("p23 seized", x.whole(5, 1), -4);
        for (int how = 0; how < 3; how++) {
            CHECK.due("p23 a gone one", x.leave(0, how), -3);
            CHECK.due("p23 a seized one", x.leave(1, how), -3);
        }
        CHECK.due("p23 how ahead of state", x.leave(0, 3), -1);
        CHECK.due("p23 they stay", x.whole(5, 0), -3);
    }

    private static void goods() {
        FreeCity x = harbour();
        x.ship(2, 10);
        CHECK.due("p24 no ship", x.goods(2, 0), -1);
        CHECK.due("p24 n", x.goods(0, 0), -2);
        CHECK.due("p24 n ahead of state", x.goods(1, 1000), -2);
        CHECK.due("p24 no berth", x.goods(1, 5), -3);
        CHECK.due("p24 too many", x.goods(0, 101), -3);
        CHECK.due("p24 all", x.goods(0, 100), 100);
        CHECK.due("p24 none left", x.goods(0, 1), -3);
        x.berth(1, 1);
        CHECK.due("p24 of both ships", x.goods(1, 4), 104);
        CHECK.due("p24 aboard", x.whole(4, 1), 6);
        CHECK.due("p24 no other good", x.whole(1, 0), 0);
        x.leave(1, 2);
        CHECK.due("p24 seized", x.goods(1, 1), -3);
    }

    private static void coin() {
        FreeCity x = harbour();
        x.goods(0, 100);
        CHECK.due("p25 good", x.coin(4, 0, false), -1);
        CHECK.due("p25 n", x.coin(2, 0, false), -2);
        CHECK.due("p25 n", x.coin(2, 1000, true), -2);
        CHECK.due("p25 not so many", x.coin(2, 101, false), -3);
        CHECK.due("p25 of another good", x.coin(1, 1, false), -3);
        CHECK.due("p25 sold", x.coin(2, 30, false), 300);
        CHECK.due("p25 through", x.coin(2, 40, true), 300);
        x.tariff(0, 2, 99);
        x.tariff(0, 1, 5);
        CHECK.due("p25 by the tariff then", x.coin(2, 10, false), 300 + 990);
        CHECK.due("p25 bond", x.whole(1, 2), 20);
        CHECK.due("p25 sold", x.whole(2, 2), 40);
        CHECK.due("p25 through", x.whole(3, 2), 40);
        x.tariff(0, 2, 0);
        CHECK.due("p25 by no tariff", x.coin(2, 20, false), 1290);
        CHECK.due("p25 the chest", x.count(4), 1290);
        CHECK.due("p25 none left", x.coin(2, 1, true), -3);
    }

    private static void tariff() {
        FreeCity x = new FreeCity();
        for (int good = 0; good < 4; good++) {
            CHECK.due("p26 tariff", x.tariff(0, good, 99), 10);
            CHECK.due("p26 tariff", x.tariff(0, good, 0), 99);
        }
        for (int side = 0; side < 3; side++) {
            CHECK.due("p26 part", x.tariff(1, side, 99), 1);
            CHECK.due("p26 part", x.tariff(1, side, 0), 99);
        }
        CHECK.due("p26 good", x.tariff(0, 4, 100), -1);
        CHECK.due("p26 side", x.tariff(1, 3, 1), -1);
        CHECK.due("p26 side", x.tariff(1, -1, 1), -1);
        CHECK.due("p26 what", x.tariff(2, 0, 1), -1);
        CHECK.due("p26 what", x.tariff(-1, 0, 1), -1);
        CHECK.due("p26 n", x.tariff(0, 3, 100), -2);
        CHECK.due("p26 n", x.tariff(1, 2, -1), -2);
        CHECK.due("p26 it stays", x.tariff(1, 2, 4), 0);
    }

    private static void share() {
        FreeCity x = harbour();
        CHECK.due("p27 an empty chest", x.share(), 0);
        x.goods(0, 100);
        x.tariff(0, 2, 1);
        x.coin(2, 10, false);
        CHECK.due("p27 ten", x.share(), 10);
        CHECK.due("p27 alike, the rest to the least", x.whole(0, 0), 4);
        CHECK.due("p27 alike", x.whole(0, 1), 3);
        CHECK.due("p27 alike", x.whole(0, 2), 3);
        CHECK.due("p27 the chest is empty", x.count(4), 0);
        x.coin(2, 11, false);
        CHECK.due("p27 eleven", x.share(), 11);
        CHECK.due("p27 it comes to what was there", x.whole(0, 0), 8);
        CHECK.due("p27 two more", x.whole(0, 1), 7);
        CHECK.due("p27 none more", x.whole(0, 2), 6);
        for (int side = 0; side < 3; side++) {
            x.tariff(1, side, 0);
        }
        x.coin(2, 8, false);
        CHECK.due("p27 all parts 0", x.share(), 8);
        CHECK.due("p27 alike", x.whole(0, 0), 11);
        CHECK.due("p27 alike", x.whole(0, 1), 10);
        CHECK.due("p27 alike", x.whole(0, 2), 8);
    }

    /** What each side has when a chest is shared out by these parts. */
    private static void parted(int chest, int[] parts, int[] due) {
        FreeCity x = harbour();
        x.goods(0, 100);
        x.tariff(0, 2, 1);
        x.coin(2, chest, false);
        for (int side = 0; side < 3; side++) {
            x.tariff(1, side, parts[side]);
        }
        x.share();
        for (int side = 0; side < 3; side++) {
            CHECK.due("p27 chest " + chest + " side " + side, x.whole(0, side), due[side]);
        }
    }

    private static void shareByParts() {
        parted(100, new int[] {0, 0, 5}, new int[] {0, 0, 100});
        parted(7, new int[] {0, 1, 1}, new int[] {0, 4, 3});
        // 10 by 1 : 2 : 4 is 1 3/7, 2 6/7, 5 5/7: one each to the second and the third.
        parted(10, new int[] {1, 2, 4}, new int[] {1, 3, 6});
        // 5 by 3 : 3 : 2 is 1 7/8, 1 7/8, 1 2/8.
        parted(5, new int[] {3, 3, 2}, new int[] {2, 2, 1});
        // 9 by 2 : 4 : 4 is 1 8/10, 3 6/10, 3 6/10: of the like ones the lesser.
        parted(9, new int[] {2, 4, 4}, new int[] {2, 4, 3});
        parted(100, new int[] {0, 1, 0}, new int[] {0, 100, 0});
        parted(1, new int[] {1, 99, 98}, new int[] {0, 1, 0});
    }

    private static void whole() {
        FreeCity x = harbour();
        for (int what = 0; what <= 5; what++) {
            CHECK.due("p28 none such", x.whole(what, -1), -5);
            CHECK.due("p28 none such", x.whole(what, 12), -5);
        }
        CHECK.due("p28 side", x.whole(0, 3), -5);
        CHECK.due("p28 good", x.whole(1, 4), -5);
        CHECK.due("p28 good", x.whole(2, 3), 0);
        CHECK.due("p28 good", x.whole(3, 3), 0);
        CHECK.due("p28 ship", x.whole(4, 1), -5);
        CHECK.due("p28 ship", x.whole(5, 1), -5);
        CHECK.due("p28 tons", x.whole(4, 0), 100);
        CHECK.due("p28 spot 0", x.whole(5, 0), 0);
        CHECK.due("p28 what", x.whole(6, 0), -5);
        CHECK.due("p28 what", x.whole(-1, 0), -5);
    }

    private static void firm() {
        FreeCity x = new FreeCity();
        CHECK.due("p29 itself", x.firm(0, 0), -1);
        CHECK.due("p29 owner", x.firm(0, -2), -1);
        CHECK.due("p29 side", x.firm(3, -1), -1);
        CHECK.due("p29 side", x.firm(-1, -1), -1);
        for (int i = 0; i < 10; i++) {
            CHECK.due("p29 firm", x.firm(i % 3, i - 1), i);
        }
        CHECK.due("p29 owner ahead of full", x.firm(0, 10), -1);
        CHECK.due("p29 full", x.firm(0, 9), -4);
        CHECK.due("p29 ten", x.count(5), 10);
    }

    private static void used() {
        FreeCity x = new FreeCity();
        CHECK.due("p30 no firm", x.used(0, 5), -1);
        x.firm(0, -1);
        x.firm(1, -1);
        CHECK.due("p30 no firm ahead of n", x.used(2, 0), -1);
        CHECK.due("p30 no firm", x.used(-1, 1), -1);
        CHECK.due("p30 n", x.used(0, 0), -2);
        CHECK.due("p30 n", x.used(0, 1000), -2);
        for (int i = 1; i <= 40; i++) {
            CHECK.due("p30 how many times", x.used(i % 2, 999), i);
        }
        CHECK.due("p30 full", x.used(0, 1), -4);
        CHECK.due("p30 bad ahead of full", x.used(0, 0), -2);
        CHECK.due("p31 all", x.left(0, 0), 20 * 999);
        CHECK.due("p31 below 0", x.left(1, 1), -20 * 999);
    }

    private static void left() {
        FreeCity x = new FreeCity();
        x.quota(5, 0, 10);
        x.firm(0, -1);
        x.firm(1, 0);
        x.firm(0, 1);
        x.firm(0, -1);
        CHECK.due("p31 nothing used", x.left(0, 0), 0);
        CHECK.due("p31 all left", x.left(1, 0), 10);
        CHECK.due("p31 none", x.left(2, 0), -5);
        x.used(1, 3);
        x.used(2, 6);
        x.used(3, 4);
        CHECK.due("p31 exactly used up", x.left(1, 0), 0);
        CHECK.due("p31 not exceeded", x.left(2, 0), -5);
        CHECK.due("p31 another side's", x.left(1, 1), -3);
        CHECK.due("p31 without a quota the first", x.left(2, 1), 0);
        x.used(1, 1);
        x.used(0, 1);
        CHECK.due("p31 left may be -1", x.left(1, 0), -1);
        CHECK.due("p31 by order of all", x.left(2, 0), 4);
        CHECK.due("p31 use with all that it owns", x.left(0, 0), 3 + 6 + 1 + 1);
        CHECK.due("p31 use with what it owns", x.left(0, 1), 3 + 6 + 1);
        CHECK.due("p31 use", x.left(0, 2), 6);
        CHECK.due("p31 use", x.left(0, 3), 4);
        x.quota(5, 0, 5);
        CHECK.due("p31 by the quota now", x.left(2, 0), 1);
        x.quota(5, 0, 6);
        CHECK.due("p31 by the quota now", x.left(2, 0), 2);
        CHECK.due("p31 firm", x.left(0, 4), -1);
        CHECK.due("p31 firm", x.left(0, -1), -1);
        CHECK.due("p31 side", x.left(1, 3), -1);
        CHECK.due("p31 side", x.left(2, 3), -1);
        CHECK.due("p31 what", x.left(3, 0), -1);
        CHECK.due("p31 what", x.left(-1, 0), -1);
        CHECK.due("p31 the city's", x.left(1, 2), 0);
    }
}
