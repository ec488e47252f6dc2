/** Promises 32 to 36: doors by night. */
final class NightTests {
    private static final Check CHECK = new Check("NightTests");

    public static void main(String[] args) {
        door();
        seen();
        who();
        walls();
        sameSpot();
        night();
        sure();
        CHECK.end();
    }

    /** Doors at 0, 5, 24 and 29, the corners. */
    private static FreeCity corners() {
        FreeCity x = new FreeCity();
        for (int spot : new int[] {0, 5, 24, 29}) {
            x.yard(spot, 4);
        }
        return x;
    }

    private static void door() {
        FreeCity x = corners();
        CHECK.due("p32 spot", x.door(30, -1, 0), -1);
        CHECK.due("p32 spot", x.door(-1, 0, 0), -1);
        CHECK.due("p32 hours", x.door(0, -1, 0), -2);
        CHECK.due("p32 hours", x.door(0, 0, 24), -2);
        CHECK.due("p32 hours", x.door(0, 24, 24), -2);
        CHECK.due("p32 hours ahead of state", x.door(1, 5, 4), -2);
        CHECK.due("p32 no door", x.door(1, 4, 5), -3);
        for (int i = 0; i < 6; i++) {
            CHECK.due("p32 door", x.door(i % 2 * 5, i, 23), i);
        }
        CHECK.due("p32 full", x.door(0, 0, 0), -4);
        CHECK.due("p32 state ahead of full", x.door(1, 0, 0), -3);
        CHECK.due("p32 six", x.count(6), 6);
    }

    private static void seen() {
        FreeCity x = new FreeCity();
        x.yard(3, 5);
        CHECK.due("p33 person", x.seen(8, 0, 0), -1);
        CHECK.due("p33 person", x.seen(-1, 0, 0), -1);
        CHECK.due("p33 spot ahead of hour", x.seen(0, 30, 24), -1);
        CHECK.due("p33 hour ahead of wall", x.seen(0, 3, 24), -2);
        CHECK.due("p33 hour", x.seen(0, 0, -1), -2);
        CHECK.due("p33 a wall", x.seen(0, 3, 0), -3);
        for (int hour = 0; hour < 12; hour++) {
            CHECK.due("p33 seen", x.seen(7, 2, hour), hour + 1);
            CHECK.due("p33 seen there again", x.seen(7, 2, hour), hour + 1);
        }
        CHECK.due("p33 elsewhere", x.seen(7, 4, 11), -3);
        CHECK.due("p33 full", x.seen(7, 2, 12), -4);
        CHECK.due("p33 a wall ahead of full", x.seen(7, 3, 12), -3);
        CHECK.due("p33 no new hour", x.seen(7, 2, 11), 12);
        CHECK.due("p33 another person", x.seen(6, 2, 12), 1);
        for (int hour = 0; hour < 12; hour++) {
            CHECK.due("p33 at spot 0", x.seen(0, 0, hour), hour + 1);
        }
        CHECK.due("p33 at spot 0 again", x.seen(0, 0, 5), 12);
        CHECK.due("p33 at spot 0 in one hour more", x.seen(0, 0, 12), -4);
    }

    private static void who() {
        FreeCity x = corners();
        CHECK.due("p34 no doors, the empty set", x.who(0, 0), 1);
        CHECK.due("p34 no such door", x.who(0, 1), -2);
        x.door(0, 2, 3);
        x.door(29, 11, 11);
        x.door(5, 0, 23);
        CHECK.due("p34 person", x.who(8, 0), -1);
        CHECK.due("p34 person ahead of set", x.who(-1, -1), -1);
        CHECK.due("p34 set", x.who(0, 8), -2);
        CHECK.due("p34 set", x.who(0, -1), -2);
        CHECK.due("p34 2 to 11 by nine steps", x.who(0, 3), 1);
        CHECK.due("p34 all three", x.who(0, 7), 1);
        x.seen(0, 0, 3);
        CHECK.due("p34 3 to 11 by nine steps", x.who(0, 3), 0);
        CHECK.due("p34 alone", x.who(0, 1), 1);
        CHECK.due("p34 not alone either", x.who(0, 2), 0);
        CHECK.due("p34 the third", x.who(0, 5), 1);
        x.seen(0, 0, 23);
        CHECK.due("p34 to 5 and back", x.who(0, 5), 1);
        x.seen(0, 0, 12);
        CHECK.due("p34 there is time enough", x.who(0, 5), 1);
        x.seen(0, 1, 8);
        CHECK.due("p34 12 to 23 by ten steps", x.who(0, 4), 1);
        x.seen(0, 1, 22);
        CHECK.due("p34 12 to 22, ten hours, 5 and 4 steps", x.who(0, 4), 1);
        x.seen(0, 1, 20);
        CHECK.due("p34 12 to 20, eight hours", x.who(0, 4), 0);
        x.seen(1, 0, 0);
        x.seen(1, 29, 8);
        CHECK.due("p34 nowhere in time: not even the empty set", x.who(1, 0), 0);
        x.seen(2, 0, 14);
        x.seen(2, 29, 23);
        CHECK.due("p34 just in time", x.who(2, 0), 1);
        CHECK.due("p34 not seen at its hours", x.who(2, 1), 1);
    }

    private static void walls() {
        FreeCity x = corners();
        x.door(0, 0, 23);
        x.seen(0, 2, 5);
        x.seen(1, 7, 5);
        CHECK.due("p34 a way", x.who(0, 1), 1);
        x.yard(1, 5);
        x.yard(6, 5);
        CHECK.due("p34 walled in", x.who(0, 1), 0);
        CHECK.due("p34 the empty set", x.who(0, 0), 1);
        CHECK.due("p34 whoever wasn't seen may sit within", x.who(2, 1), 1);
        x.yard(7, 5);
        CHECK.due("p34 seen where a wall is now", x.who(1, 0), 0);
        CHECK.due("p35 seen where a wall is now", x.night(1, 0), 0);
        CHECK.due("p35 seen where a wall is now", x.night(1, 1), 0);
    }

    private static void sameSpot() {
        FreeCity x = corners();
        x.door(0, 4, 4);
        x.door(0, 4, 4);
        x.door(0, 4, 5);
        CHECK.due("p34 one in an hour at most", x.who(0, 3), 0);
        CHECK.due("p34 another hour", x.who(0, 5), 1);
        CHECK.due("p34 two hours for three", x.who(0, 7), 0);
        CHECK.due("p35 two", x.night(0, 0), 2);
        CHECK.due("p35 the least set of two", x.night(0, 1), 5);
        x.seen(0, 1, 5);
        CHECK.due("p34 only the fourth hour", x.who(0, 5), 0);
        CHECK.due("p35 the least of one", x.night(0, 1), 1);
    }

    private static void night() {
        FreeCity x = corners();
        CHECK.due("p35 no doors", x.night(0, 0), 0);
        CHECK.due("p35 no doors", x.night(0, 1), 0);
        x.door(0, 10, 10);
        x.door(29, 10, 10);
        x.door(5, 15, 15);
        x.door(24, 15, 15);
        CHECK.due("p35 two of four", x.night(3, 0), 2);
        CHECK.due("p35 the least", x.night(3, 1), 5);
        x.seen(3, 0, 10);
        x.seen(3, 6, 14);
        CHECK.due("p35 one", x.night(3, 0), 1);
        CHECK.due("p35 the first", x.night(3, 1), 1);
        x.seen(3, 7, 11);
        CHECK.due("p35 none", x.night(3, 0), 0);
        CHECK.due("p35 none", x.night(3, 1), 0);
        x.seen(4, 24, 16);
        CHECK.due("p35 two", x.night(4, 0), 2);
        CHECK.due("p35 0 and 24, four steps", x.night(4, 1), 9);
        CHECK.due("p35 person", x.night(8, 0), -1);
        CHECK.due("p35 person", x.night(-1, 0), -1);
        CHECK.due("p35 what", x.night(0, 2), -1);
        CHECK.due("p35 what", x.night(0, -1), -1);
    }

    private static void sure() {
        FreeCity x = corners();
        CHECK.due("p36 no door", x.sure(0), -1);
        x.door(0, 12, 12);
        x.door(5, 12, 12);
        CHECK.due("p36 several", x.sure(0), -5);
        CHECK.due("p36 no door", x.sure(2), -1);
        CHECK.due("p36 no door", x.sure(-1), -1);
        for (int person = 0; person < 8; person++) {
            x.seen(person, person == 6 ? 1 : person == 2 ? 4 : 15, 11);
        }
        CHECK.due("p36 just one", x.sure(0), 6);
        CHECK.due("p36 just one", x.sure(1), 2);
        x.seen(2, 4, 12);
        CHECK.due("p36 none", x.sure(1), -5);
        CHECK.due("p36 still", x.sure(0), 6);
        FreeCity y = corners();
        y.door(0, 12, 12);
        for (int person = 1; person < 8; person++) {
            y.seen(person, 15, 11);
        }
        CHECK.due("p36 the first person", y.sure(0), 0);
        y.seen(0, 15, 12);
        y.door(29, 14, 15);
        CHECK.due("p36 none", y.sure(0), -5);
        CHECK.due("p36 all", y.sure(1), -5);
    }
}
