/** The edges of Terms 6 and of promises 37 to 41: votes and seats, things said. */
final class HallEdgesTests {
    private static final Check CHECK = new Check("HallEdgesTests");
    private static final Edges LIVELY = new Edges(CHECK, Cities::lively);
    private static final Edges FULL = new Edges(CHECK, Cities::crammed);

    public static void main(String[] args) {
        voteBounds();
        voteWhatTheyWere();
        seatBounds();
        seatOneByOne();
        seatExactly();
        seatOfLikeOnes();
        seatWithoutVotes();
        turnBounds();
        turnFewest();
        turnLeast();
        turnNotSoMany();
        sayBounds();
        sayOrder();
        sayFull();
        sayOneAtLeast();
        saySecondLeftOut();
        sayOfEachThing();
        holdBounds();
        holdUpToADay();
        holdMost();
        holdLeast();
        CHECK.end();
    }

    private static FreeCity voted(int... votes) {
        FreeCity x = new FreeCity();
        for (int list = 0; list < votes.length; list++) {
            x.vote(list, votes[list]);
        }
        return x;
    }

    private static void voteBounds() {
        LIVELY.bounds("p37 vote's list", 0, 5, -1, (x, n) -> x.vote(n, 7));
        LIVELY.bounds("p37 vote's n", 0, 99999, -2, (x, n) -> x.vote(0, n));
        LIVELY.refused("p37 NONE ahead of BAD", -1, x -> x.vote(6, 100000));
        LIVELY.refused("p37 NONE ahead of BAD", -1, x -> x.vote(-1, -1));
    }

    private static void voteWhatTheyWere() {
        FreeCity x = new FreeCity();
        for (int list = 0; list < 6; list++) {
            CHECK.due("p37 0 at first", x.vote(list, 99999 - list), 0);
        }
        for (int list = 0; list < 6; list++) {
            CHECK.due("p37 what they were", x.vote(list, 0), 99999 - list);
            CHECK.due("p37 what they were", x.vote(list, 1), 0);
        }
    }

    private static void seatBounds() {
        LIVELY.bounds("p38 seat's list", 0, 5, -1, (x, n) -> x.seat(n, 7));
        LIVELY.bounds("p38 seat's n", 1, 60, -2, (x, n) -> x.seat(0, n));
        LIVELY.refused("p38 NONE ahead of BAD", -1, x -> x.seat(6, 61));
        LIVELY.refused("p38 NONE ahead of BAD", -1, x -> x.seat(-1, 0));
    }

    private static void seats(String what, FreeCity x, int n, int... due) {
        for (int list = 0; list < 6; list++) {
            CHECK.due(what + ": list " + list + " of " + n, x.seat(list, n), list < due.length ? due[list] : 0);
        }
    }

    private static void seatOneByOne() {
        // 100, 60, 35: shares 100 60 50 35 33 30 25 20 20 17: lists 0 1 0 2 0 1 0 0 1 2.
        int[][] due = {{1, 0, 0}, {1, 1, 0}, {2, 1, 0}, {2, 1, 1}, {3, 1, 1}, {3, 2, 1}, {4, 2, 1}, {5, 2, 1}, {5, 3, 1}, {5, 3, 2}};
        FreeCity x = voted(100, 60, 35);
        for (int n = 1; n <= due.length; n++) {
            seats("t6 one by one", x, n, due[n - 1]);
        }
        seats("t6 all to one", voted(0, 0, 5), 60, 0, 0, 60);
        seats("t6 all to the last one", voted(0, 0, 0, 0, 0, 99999), 60, 0, 0, 0, 0, 0, 60);
        seats("t6 to each of six", voted(6, 6, 6, 6, 6, 6), 60, 10, 10, 10, 10, 10, 10);
        seats("t6 what was asked ahead of it doesn't count", x, 1, 1);
    }

    private static void seatExactly() {
        // 100000 by 2 can't be, but 99999 by 2 is more than 49999.
        seats("t6 exactly", voted(49999, 99999), 2, 0, 2);
        seats("t6 exactly", voted(50000, 99999), 2, 1, 1);
        // 10 by 3 is more than 3, and 10 by 4 is less than 3.
        seats("t6 exactly", voted(3, 10), 3, 0, 3);
        seats("t6 exactly", voted(3, 10), 4, 1, 3);
        // The 60th: 99999 by 60 is 1666.65.
        seats("t6 exactly", voted(99999, 1666), 60, 60, 0);
        seats("t6 exactly", voted(99999, 1667), 60, 59, 1);
    }

    private static void seatOfLikeOnes() {
        seats("t6 of several the least LIST", voted(5, 5, 5, 5, 5, 5), 1, 1);
        seats("t6 of several the least LIST", voted(5, 5, 5, 5, 5, 5), 4, 1, 1, 1, 1);
        seats("t6 of several the least LIST", voted(5, 5, 5, 5, 5, 5), 7, 2, 1, 1, 1, 1, 1);
        // 20 by 2 is 10: the lesser list is ahead, on either side.
        seats("t6 of several the least LIST", voted(0, 10, 20), 2, 0, 1, 1);
        seats("t6 of several the least LIST", voted(0, 20, 10), 2, 0, 2, 0);
        seats("t6 of several the least LIST", voted(30, 10), 3, 3, 0);
        seats("t6 of several the least LIST", voted(10, 30), 3, 1, 2);
    }

    private static void seatWithoutVotes() {
        seats("t6 without VOTES none", new FreeCity(), 1);
        seats("t6 without VOTES none", new FreeCity(), 60);
        seats("t6 without VOTES none", voted(0, 1, 0, 1), 60, 0, 30, 0, 30);
        FreeCity x = voted(5, 5);
        x.vote(0, 0);
        seats("t6 VOTES taken back", x, 9, 0, 9);
        x.vote(1, 0);
        seats("t6 VOTES taken back", x, 9);
    }

    private static void turnBounds() {
        Edges all = new Edges(CHECK, () -> voted(5));
        all.within("p39 turn's n", 1, 60, (x, n) -> x.turn(n, 1));
        all.within("p39 turn's k", 1, 60, (x, n) -> x.turn(60, n));
        LIVELY.beyond("p39 turn's n", 1, 60, -2, (x, n) -> x.turn(n, 1));
        LIVELY.beyond("p39 turn's k", 1, 60, -2, (x, n) -> x.turn(60, n));
        LIVELY.refused("p39 BAD ahead of -5", -2, x -> x.turn(1, 61));
        LIVELY.refused("p39 both BAD", -2, x -> x.turn(0, 0));
        LIVELY.refused("p39 -5: n is less than k", -5, x -> x.turn(59, 60));
    }

    private static void turnFewest() {
        FreeCity x = voted(6, 5, 4, 3, 2, 1);
        seats("t6 of 21", x, 21, 6, 5, 4, 3, 2, 1);
        int[] most = {6, 11, 15, 18, 20, 21};
        for (int lists = 1; lists <= 6; lists++) {
            CHECK.due("t6 k SEATS, exactly by " + lists, x.turn(21, most[lists - 1]), (1 << lists) - 1);
            if (lists < 6) {
                int one = x.turn(21, most[lists - 1] + 1);
                CHECK.due("t6 one SEAT more than " + lists + " have", Integer.bitCount(one), lists + 1);
            }
        }
        CHECK.due("t6 or more", x.turn(21, 1), 1);
        CHECK.due("t6 the last one alone", voted(1, 1, 1, 1, 1, 60).turn(60, 50), 32);
    }

    private static void turnLeast() {
        FreeCity x = voted(1, 2, 3, 4, 5, 6);
        seats("t6 of 21", x, 21, 1, 2, 3, 4, 5, 6);
        // 7 is 4 and 3, 8 is 5 and 3, 9 is 5 and 4; 12 is 5 and 4 and 3, 13 is 6 and 4 and 3.
        int[] due = {1, 2, 4, 8, 16, 32, 12, 20, 24, 40, 48, 28, 44};
        for (int k = 1; k <= due.length; k++) {
            CHECK.due("t6 of several sets the least as bits: " + k, x.turn(21, k), due[k - 1]);
        }
        CHECK.due("t6 of like ones the least", voted(7, 7, 7, 7, 7, 7).turn(6, 3), 7);
        CHECK.due("t6 without SEATS of no help", voted(0, 7, 0, 7, 0, 7).turn(3, 2), 10);
        CHECK.due("t6 the second and the third", voted(1, 3, 3).turn(7, 6), 6);
    }

    private static void turnNotSoMany() {
        CHECK.due("p39 -5: no VOTES", new FreeCity().turn(60, 1), -5);
        CHECK.due("p39 -5: one SEAT less", voted(5, 5).turn(9, 10), -5);
        CHECK.due("p39 all SEATS", voted(5, 5).turn(10, 10), 3);
        CHECK.due("p39 all 60", voted(5, 5, 5, 5, 5, 5).turn(60, 60), 63);
        CHECK.due("p39 -5: 59 of 60", voted(5, 5, 5, 5, 5, 5).turn(59, 60), -5);
    }

    private static void sayBounds() {
        LIVELY.bounds("p40 say's person", 0, 7, -1, (x, n) -> x.say(n, 5, 0, true, 1, true));
        LIVELY.bounds("p40 say's day", 0, 999, -2, (x, n) -> x.say(0, n, 0, true, 1, true));
        LIVELY.bounds("p40 say's first", 0, 7, -1, (x, n) -> x.say(0, 5, n, true, 1, true));
        LIVELY.bounds("p40 say's second", -1, 7, -1, (x, n) -> x.say(0, 5, 0, true, n, true));
        LIVELY.bounds("p40 say's first, the second left out", 0, 7, -1, (x, n) -> x.say(0, 5, n, false, -1, false));
    }

    private static void sayOrder() {
        LIVELY.refused("p40 NONE person ahead of BAD", -1, x -> x.say(8, 1000, 0, true, 1, true));
        LIVELY.refused("p40 NONE first ahead of BAD", -1, x -> x.say(0, -1, 8, true, 1, true));
        LIVELY.refused("p40 NONE second ahead of BAD", -1, x -> x.say(0, 1000, 0, true, 8, true));
        LIVELY.refused("p40 NONE second ahead of BAD", -1, x -> x.say(0, -1, 0, true, -2, true));
        LIVELY.refused("p40 the first can't be left out", -1, x -> x.say(0, 5, -1, true, -1, true));
    }

    private static void sayFull() {
        FULL.refused("p40 FULL", -4, x -> x.say(0, 5, 0, true, 1, true));
        FULL.refused("p40 FULL, the second left out", -4, x -> x.say(0, 5, 0, true, -1, true));
        FULL.refused("p40 NONE person ahead of FULL", -1, x -> x.say(-1, 5, 0, true, 1, true));
        FULL.refused("p40 NONE first ahead of FULL", -1, x -> x.say(0, 5, -1, true, 1, true));
        FULL.refused("p40 NONE second ahead of FULL", -1, x -> x.say(0, 5, 0, true, -2, true));
        FULL.refused("p40 BAD ahead of FULL", -2, x -> x.say(0, 1000, 0, true, 1, true));
        FreeCity x = new FreeCity();
        for (int i = 1; i <= 20; i++) {
            CHECK.due("p40 a refused one is none", x.say(0, -1, 0, true, -1, true), -2);
            CHECK.due("p40 SAYINGS, by how many", x.say(0, 0, 0, true, -1, true), i);
        }
        CHECK.due("t6 20 at most", x.say(0, 0, 0, true, -1, true), -4);
        CHECK.due("p41 the refused ones don't count", x.hold(999, 0), 20);
    }

    /** Sayings that nail down things 0 and 1, and one of both: how many are held tells whether it is true. */
    private static void nailed(boolean zero, boolean one, boolean so, boolean also, boolean due) {
        FreeCity x = new FreeCity();
        for (int i = 0; i < 2; i++) {
            x.say(0, 0, 0, zero, -1, true);
            x.say(0, 0, 1, one, -1, false);
        }
        x.say(0, 0, 0, so, 1, also);
        String told = "t6 one at least as said: " + so + " " + also + " by " + zero + " " + one;
        CHECK.due(told, x.hold(0, 0), due ? 5 : 4);
        CHECK.due(told, x.hold(0, 1), (zero ? 1 : 0) + (one ? 2 : 0));
    }

    private static void sayOneAtLeast() {
        for (int bits = 0; bits < 16; bits++) {
            boolean zero = (bits & 1) != 0;
            boolean one = (bits & 2) != 0;
            boolean so = (bits & 4) != 0;
            boolean also = (bits & 8) != 0;
            nailed(zero, one, so, also, zero == so || one == also);
        }
    }

    private static void saySecondLeftOut() {
        for (int also = 0; also < 2; also++) {
            FreeCity x = new FreeCity();
            x.say(0, 0, 7, true, -1, also == 1);
            x.say(0, 0, 7, false, -1, also == 1);
            CHECK.due("t6 the second may be left out, whatever is said of it", x.hold(0, 0), 1);
            CHECK.due("t6 the least as bits", x.hold(0, 1), 0);
        }
        FreeCity y = new FreeCity();
        y.say(0, 0, 3, true, 3, false);
        y.say(0, 0, 3, false, -1, false);
        CHECK.due("t6 a THING so or not so", y.hold(0, 0), 2);
        CHECK.due("t6 a THING so or not so", y.hold(0, 1), 0);
        y.say(0, 0, 3, true, 3, true);
        CHECK.due("t6 twice the same is once", y.hold(0, 0), 2);
    }

    private static void sayOfEachThing() {
        for (int thing = 0; thing < 8; thing++) {
            FreeCity x = new FreeCity();
            x.say(thing, 0, thing, true, -1, false);
            CHECK.due("t6 a bit: it is so, " + thing, x.hold(0, 1), 1 << thing);
            FreeCity y = new FreeCity();
            y.say(thing, 0, thing, false, -1, false);
            CHECK.due("t6 it isn't so, " + thing, y.hold(0, 1), 0);
            CHECK.due("t6 it isn't so, " + thing, y.hold(0, 0), 1);
            FreeCity z = new FreeCity();
            z.say(0, 0, (thing + 1) % 8, false, -1, false);
            z.say(0, 0, (thing + 1) % 8, true, thing, true);
            CHECK.due("t6 the second is so, " + thing, z.hold(0, 1), 1 << thing);
        }
        FreeCity all = new FreeCity();
        for (int thing = 0; thing < 8; thing++) {
            all.say(0, 0, thing, true, -1, false);
        }
        CHECK.due("t6 all eight are so", all.hold(0, 1), 255);
        CHECK.due("t6 all eight are so", all.hold(0, 0), 8);
    }

    private static void holdBounds() {
        LIVELY.bounds("p41 hold's day", 0, 999, -2, (x, n) -> x.hold(n, 0));
        LIVELY.bounds("p41 hold's day", 0, 999, -2, (x, n) -> x.hold(n, 1));
        LIVELY.bounds("p41 hold's what", 0, 1, -1, (x, n) -> x.hold(4, n));
        LIVELY.refused("p41 NONE ahead of BAD", -1, x -> x.hold(1000, 2));
        LIVELY.refused("p41 NONE ahead of BAD", -1, x -> x.hold(-1, -1));
        CHECK.due("p41 nothing said", new FreeCity().hold(999, 0), 0);
        CHECK.due("p41 nothing said", new FreeCity().hold(999, 1), 0);
    }

    private static void holdUpToADay() {
        FreeCity x = new FreeCity();
        x.say(0, 999, 2, true, -1, true);
        x.say(0, 0, 0, true, -1, true);
        x.say(0, 500, 1, true, -1, true);
        int[][] due = {{0, 1, 1}, {499, 1, 1}, {500, 2, 3}, {501, 2, 3}, {998, 2, 3}, {999, 3, 7}};
        for (int[] row : due) {
            CHECK.due("p41 up to DAY " + row[0], x.hold(row[0], 0), row[1]);
            CHECK.due("p41 up to DAY " + row[0], x.hold(row[0], 1), row[2]);
        }
        FreeCity y = new FreeCity();
        y.say(0, 1, 5, true, -1, true);
        CHECK.due("p41 none up to DAY 0", y.hold(0, 0), 0);
        CHECK.due("p41 none up to DAY 0", y.hold(0, 1), 0);
    }

    private static void holdMost() {
        FreeCity x = new FreeCity();
        for (int i = 0; i < 9; i++) {
            x.say(0, 0, 7, true, -1, true);
        }
        for (int i = 0; i < 9; i++) {
            x.say(0, 0, 7, false, -1, true);
        }
        CHECK.due("t6 nine against nine", x.hold(0, 0), 9);
        CHECK.due("t6 of several the least as bits", x.hold(0, 1), 0);
        x.say(0, 0, 7, true, -1, true);
        CHECK.due("t6 ten against nine", x.hold(0, 0), 10);
        CHECK.due("t6 ten against nine", x.hold(0, 1), 128);
        x.say(0, 0, 7, false, 0, false);
        CHECK.due("t6 ten and one that goes with both", x.hold(0, 0), 11);
    }

    private static void holdLeast() {
        FreeCity x = new FreeCity();
        x.say(0, 0, 2, true, 1, true);
        CHECK.due("t6 of 2 and 4 the least", x.hold(0, 1), 2);
        x.say(0, 0, 1, false, 0, true);
        CHECK.due("t6 of 3 and 4 the least", x.hold(0, 1), 3);
        x.say(0, 0, 0, false, 5, true);
        CHECK.due("t6 of 4 and 35 the least", x.hold(0, 1), 4);
        CHECK.due("t6 all three", x.hold(0, 0), 3);
    }
}
