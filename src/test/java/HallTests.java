/** Promises 37 to 41: votes, things said. */
final class HallTests {
    private static final Check CHECK = new Check("HallTests");

    public static void main(String[] args) {
        vote();
        seat();
        ties();
        turn();
        say();
        hold();
        CHECK.end();
    }

    private static FreeCity voted(int... votes) {
        FreeCity x = new FreeCity();
        for (int list = 0; list < votes.length; list++) {
            x.vote(list, votes[list]);
        }
        return x;
    }

    private static void vote() {
        FreeCity x = new FreeCity();
        CHECK.due("p37 vote", x.vote(5, 99999), 0);
        CHECK.due("p37 vote", x.vote(5, 0), 99999);
        CHECK.due("p37 list ahead of n", x.vote(6, -1), -1);
        CHECK.due("p37 list", x.vote(-1, 0), -1);
        CHECK.due("p37 n", x.vote(0, 100000), -2);
        CHECK.due("p37 n", x.vote(5, -1), -2);
        CHECK.due("p37 it stays", x.vote(5, 1), 0);
    }

    private static void seats(FreeCity x, int n, int... due) {
        for (int list = 0; list < 6; list++) {
            CHECK.due("p38 list " + list + " of " + n, x.seat(list, n), list < due.length ? due[list] : 0);
        }
    }

    private static void seat() {
        FreeCity x = voted(340, 280, 160, 60);
        seats(x, 7, 3, 3, 1, 0);
        seats(x, 8, 4, 3, 1, 0);
        seats(x, 1, 1);
        seats(new FreeCity(), 60);
        seats(voted(0, 0, 0, 0, 0, 1), 60, 0, 0, 0, 0, 0, 60);
        seats(voted(99999, 99998), 60, 30, 30);
        CHECK.due("p38 list ahead of n", x.seat(6, 0), -1);
        CHECK.due("p38 list", x.seat(-1, 5), -1);
        CHECK.due("p38 n", x.seat(0, 0), -2);
        CHECK.due("p38 n", x.seat(0, 61), -2);
    }

    private static void ties() {
        seats(voted(10, 10, 10), 4, 2, 1, 1);
        // 20 by 2 is as much as 10.
        seats(voted(10, 20), 2, 1, 1);
        seats(voted(20, 10), 2, 2, 0);
        // Cut, both would have 3; exactly 10 by 3 is more than 3.
        seats(voted(3, 10), 3, 0, 3);
        seats(voted(2, 0, 2), 3, 2, 0, 1);
    }

    private static void turn() {
        FreeCity x = voted(30, 20, 20, 10, 10, 10);
        // Seats of 10: 3 2 2 1 1 1.
        seats(x, 10, 3, 2, 2, 1, 1, 1);
        CHECK.due("p39 one", x.turn(10, 2), 1);
        CHECK.due("p39 one", x.turn(10, 3), 1);
        CHECK.due("p39 the least of two", x.turn(10, 4), 3);
        CHECK.due("p39 two", x.turn(10, 5), 3);
        CHECK.due("p39 three", x.turn(10, 6), 7);
        CHECK.due("p39 four", x.turn(10, 8), 15);
        CHECK.due("p39 all", x.turn(10, 10), 63);
        CHECK.due("p39 not so many", x.turn(10, 11), -5);
        CHECK.due("p39 no votes", new FreeCity().turn(60, 1), -5);
        CHECK.due("p39 the last list", voted(1, 1, 1, 1, 1, 9).turn(6, 6), 32);
        CHECK.due("p39 the least one that is enough", voted(0, 5, 0, 5).turn(2, 1), 2);
        CHECK.due("p39 n", x.turn(0, 1), -2);
        CHECK.due("p39 n", x.turn(61, 1), -2);
        CHECK.due("p39 k", x.turn(1, 0), -2);
        CHECK.due("p39 k", x.turn(1, 61), -2);
        CHECK.due("p39 k 60", x.turn(60, 60), 63);
    }

    private static void say() {
        FreeCity x = new FreeCity();
        CHECK.due("p40 person", x.say(8, -1, 0, true, -1, true), -1);
        CHECK.due("p40 first", x.say(0, 0, 8, true, -1, true), -1);
        CHECK.due("p40 first can't be left out", x.say(0, 0, -1, true, -1, true), -1);
        CHECK.due("p40 second", x.say(0, 0, 0, true, 8, true), -1);
        CHECK.due("p40 second ahead of day", x.say(0, 1000, 0, true, -2, true), -1);
        CHECK.due("p40 day", x.say(0, 1000, 0, true, -1, true), -2);
        CHECK.due("p40 day", x.say(0, -1, 0, true, -1, true), -2);
        for (int i = 1; i <= 20; i++) {
            CHECK.due("p40 saying", x.say(i % 8, 999, 7, true, 7, false), i);
        }
        CHECK.due("p40 full", x.say(0, 0, 0, true, -1, true), -4);
        CHECK.due("p40 bad ahead of full", x.say(0, 1000, 0, true, -1, true), -2);
        CHECK.due("p40 twenty", x.count(7), 20);
        CHECK.due("p41 so or not so, it is true", x.hold(999, 0), 20);
        CHECK.due("p41 none of that day yet", x.hold(998, 0), 0);
    }

    private static void hold() {
        FreeCity x = new FreeCity();
        CHECK.due("p41 nothing said", x.hold(0, 0), 0);
        CHECK.due("p41 nothing said", x.hold(0, 1), 0);
        x.say(0, 5, 7, true, -1, false);
        CHECK.due("p41 a day earlier", x.hold(4, 1), 0);
        CHECK.due("p41 the day", x.hold(5, 1), 128);
        x.say(0, 6, 7, false, -1, true);
        CHECK.due("p41 not both", x.hold(6, 0), 1);
        CHECK.due("p41 the least", x.hold(6, 1), 0);
        x.say(0, 7, 7, true, 1, true);
        CHECK.due("p41 two of three", x.hold(7, 0), 2);
        CHECK.due("p41 not 7, but 1", x.hold(7, 1), 2);
        x.say(0, 8, 1, false, 0, false);
        CHECK.due("p41 three of four", x.hold(8, 0), 3);
        CHECK.due("p41 still", x.hold(8, 1), 2);
        x.say(0, 9, 1, false, -1, true);
        CHECK.due("p41 four of five", x.hold(9, 0), 4);
        CHECK.due("p41 7 after all", x.hold(9, 1), 128);
        CHECK.due("p41 all days", x.hold(999, 0), 4);
        CHECK.due("p41 what ahead of day", x.hold(1000, 2), -1);
        CHECK.due("p41 what", x.hold(0, -1), -1);
        CHECK.due("p41 day", x.hold(1000, 0), -2);
        CHECK.due("p41 day", x.hold(-1, 1), -2);
    }
}
