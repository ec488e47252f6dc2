/** Cities to ask and to change: one that has some of everything, and one that is full of everything. */
final class Cities {
    /** Acts that the lively city wants: by the answers to its question; as things stand. */
    static final int ASKED = Check.actOf(0, 9, 0, 9);
    static final int WANTED = Check.actOf(1, 10, 1, 8);

    /**
     * Spots: 0 a quay with a ship, 1 a dock, 2 a painted door, 3 a wall, 5 rails, 6 a quay, 7 a door. Today is 40.
     * Rulings: 2 overruled, 3 fallen with it, 4 stands behind its term, 6 is held up, 8 stands and leans on 4;
     * appeals 5 (of 2, heard) and 7 (of 6, not heard). Ships: 1 in the roads, 2 gone, 3 seized. Firm 1 is owned by 0.
     * The tape holds a text of 7 bytes. The image is from day 0.
     */
    static FreeCity lively() {
        FreeCity x = new FreeCity();
        int[] grounds = {1, 2, 4, 5, 0, 3, 1, 4};
        for (int spot = 0; spot < grounds.length; spot++) {
            x.yard(spot, grounds[spot]);
        }
        Check.textOf(x, 0, 0, "let m=0&h>7;bar s=1");
        Check.textOf(x, 1, 1, "let h<20");
        court(x);
        x.ship(1, 90);
        x.ship(2, 40);
        x.ship(3, 5);
        x.ship(0, 999);
        x.berth(0, 0);
        x.goods(0, 50);
        x.leave(2, 1);
        x.leave(3, 2);
        x.coin(1, 20, false);
        x.share();
        x.coin(1, 10, false);
        x.coin(1, 5, true);
        x.firm(1, -1);
        x.firm(0, 0);
        x.used(1, 30);
        x.used(0, 80);
        x.door(2, 4, 9);
        x.seen(0, 8, 5);
        x.vote(0, 50);
        x.vote(1, 30);
        x.say(0, 4, 1, true, 2, false);
        x.ask(9, 0, 1 << 4, 1 << 8);
        x.want(ASKED);
        x.want(WANTED);
        Check.feedAll(x, "let m=1");
        return x;
    }

    private static void court(FreeCity x) {
        x.use(3, 1, 4, 2);
        x.quota(5, 1, 70);
        x.rule(8, 0, true);
        x.rule(8, 1, false);
        x.rule(9, 0, true);
        x.lean(3, 2);
        x.appeal(2, 0, 60);
        x.image();
        x.day(40);
        x.rule(9, 1, true);
        x.appeal(6, 0, 70);
        x.rule(10, 0, false);
        x.lean(8, 4);
    }

    /**
     * All that has an end is at its end. Spots 0 to 7 as in the lively city, but for ship 0 at 0 alone. Today is 31.
     * Rights: 0 a use, 1 a quota, 2 an overruled ruling, 3 its appeal, 4 a ruling behind its term, 5 a ruling with
     * an appeal by side 0, which is 6; then rulings. Person 0 was seen at 8 in the hours 0 .. 11. The tape is no text.
     */
    static FreeCity crammed() {
        FreeCity x = new FreeCity();
        int[] grounds = {1, 2, 4, 5, 0, 3, 1, 4};
        for (int spot = 0; spot < grounds.length; spot++) {
            x.yard(spot, grounds[spot]);
        }
        for (int i = 0; i < 15; i++) {
            Check.textOf(x, i % 3, i, "let m=1");
        }
        x.use(3, 1, 4, 2);
        x.quota(5, 1, 70);
        x.rule(8, 0, true);
        x.appeal(2, 0, 60);
        x.rule(9, 0, true);
        x.day(31);
        x.rule(9, 1, true);
        x.appeal(5, 0, 0);
        for (int i = 7; i < 50; i++) {
            x.rule(i % 30, i % 5, i % 2 == 0);
        }
        cramPort(x);
        cramRest(x);
        return x;
    }

    private static void cramPort(FreeCity x) {
        for (int i = 0; i < 12; i++) {
            x.ship(i % 4, 10 + i);
        }
        x.berth(0, 0);
        x.goods(0, 5);
        for (int i = 0; i < 10; i++) {
            x.firm(i % 3, i - 1);
        }
        for (int i = 0; i < 40; i++) {
            x.used(i % 10, 3 + i);
        }
    }

    private static void cramRest(FreeCity x) {
        for (int i = 0; i < 6; i++) {
            x.door(2, i, 20);
        }
        for (int hour = 0; hour < 12; hour++) {
            x.seen(0, 8, hour);
        }
        for (int i = 0; i < 20; i++) {
            x.say(i % 8, i, i % 8, i % 3 == 0, -1, false);
        }
        for (int i = 0; i < 6; i++) {
            x.ask(9, i % 5, 1L << 5 + 2 * i, 1L << 49);
        }
        for (int i = 0; i < 10; i++) {
            x.want(i);
        }
        x.image();
        for (int i = 0; i < 15; i++) {
            Check.feedAll(x, "lit s=1|");
        }
    }

    private Cities() {
    }
}
