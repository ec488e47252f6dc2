/** The edges of Terms 5 and of promises 32 to 36: doors painted, persons seen. */
final class NightEdgesTests {
    private static final Check CHECK = new Check("NightEdgesTests");
    private static final Edges LIVELY = new Edges(CHECK, Cities::lively);
    private static final Edges FULL = new Edges(CHECK, Cities::crammed);

    public static void main(String[] args) {
        doorBounds();
        doorOrder();
        doorGrounds();
        doorFull();
        seenBounds();
        seenOrder();
        seenStates();
        seenTwelve();
        seenAgain();
        whoBounds();
        firstAndLastHour();
        fromAndTo();
        besideOrTheSame();
        wherePersonsWereSeen();
        oneDoorInAnHour();
        noWalls();
        nightBounds();
        mostDoors();
        leastOfSets();
        sureBounds();
        sureOfEachPerson();
        sureAlone();
        CHECK.end();
    }

    private static FreeCity doors(int... spots) {
        FreeCity x = new FreeCity();
        for (int spot : spots) {
            x.yard(spot, 4);
        }
        return x;
    }

    private static void doorBounds() {
        LIVELY.beyond("p32 door's spot", 0, 29, -1, (x, n) -> x.door(n, 0, 0));
        Edges corners = new Edges(CHECK, () -> doors(0, 29));
        corners.within("p32 door's spot", 0, 29, (x, n) -> x.door(n, 0, 23));
        LIVELY.bounds("p32 the first hour, to 23", 0, 23, -2, (x, n) -> x.door(7, n, 23));
        LIVELY.bounds("p32 the last hour, from 0", 0, 23, -2, (x, n) -> x.door(7, 0, n));
        LIVELY.refused("p32 both hours BAD", -2, x -> x.door(7, 24, 24));
        LIVELY.refused("p32 both hours BAD", -2, x -> x.door(7, -1, -1));
        for (int hour = 0; hour < 23; hour++) {
            int first = hour + 1;
            LIVELY.refused("p32 the first behind the last: " + first, -2, x -> x.door(7, first, first - 1));
            CHECK.due("p32 the first is the last: " + hour, Cities.lively().door(7, hour, hour), 1);
            CHECK.due("p32 the first ahead of the last: " + hour, Cities.lively().door(7, hour, hour + 1), 1);
        }
    }

    private static void doorOrder() {
        LIVELY.refused("p32 NONE ahead of BAD", -1, x -> x.door(30, 5, 4));
        LIVELY.refused("p32 NONE ahead of BAD", -1, x -> x.door(-1, 24, 24));
        LIVELY.refused("p32 BAD ahead of STATE", -2, x -> x.door(4, 5, 4));
        LIVELY.refused("p32 BAD ahead of STATE, a WALL", -2, x -> x.door(3, 0, 24));
    }

    private static void doorGrounds() {
        for (int spot : new int[] {0, 1, 3, 4, 5, 6}) {
            LIVELY.refused("p32 STATE: no DOOR at " + spot, -3, x -> x.door(spot, 0, 23));
        }
        LIVELY.within("p32 a DOOR that was painted, and one that was not", 2, 7, (x, n) -> x.door(n, 4, 9));
        FreeCity x = doors(3);
        x.yard(3, 3);
        CHECK.due("p32 STATE: no DOOR now", x.door(3, 0, 0), -3);
        x.yard(3, 4);
        CHECK.due("p32 a DOOR again", x.door(3, 0, 0), 0);
    }

    private static void doorFull() {
        FULL.refused("p32 FULL", -4, x -> x.door(7, 0, 0));
        FULL.refused("p32 FULL, of a painted one", -4, x -> x.door(2, 0, 23));
        FULL.refused("p32 NONE ahead of FULL", -1, x -> x.door(30, 0, 0));
        FULL.refused("p32 BAD ahead of FULL", -2, x -> x.door(7, 1, 0));
        FULL.refused("p32 STATE ahead of FULL", -3, x -> x.door(4, 0, 0));
        FreeCity x = doors(0, 5, 10, 15, 20, 25, 29);
        for (int door = 0; door < 6; door++) {
            CHECK.due("t5 a refused one has no number", x.door(5 * door, 24, 24), -2);
            CHECK.due("t5 DOORS painted, 6", x.door(5 * door, door, door), door);
        }
        CHECK.due("t5 6 at most", x.door(29, 0, 0), -4);
        CHECK.due("p2 the seventh was not painted", x.yard(29, 0), 4);
        CHECK.due("p2 the sixth was", x.yard(25, 0), -3);
    }

    private static void seenBounds() {
        LIVELY.bounds("p33 seen's person", 0, 7, -1, (x, n) -> x.seen(n, 8, 6));
        LIVELY.beyond("p33 seen's spot", 0, 29, -1, (x, n) -> x.seen(0, n, 6));
        LIVELY.within("p33 seen's spot", 0, 29, (x, n) -> x.seen(7, n, 6));
        LIVELY.bounds("p33 seen's hour", 0, 23, -2, (x, n) -> x.seen(1, 8, n));
        LIVELY.within("p33 seen at a DOOR, at RAILS", 2, 5, (x, n) -> x.seen(1, n, 3));
    }

    private static void seenOrder() {
        LIVELY.refused("p33 NONE person ahead of BAD", -1, x -> x.seen(8, 8, 24));
        LIVELY.refused("p33 NONE spot ahead of BAD", -1, x -> x.seen(0, 30, -1));
        LIVELY.refused("p33 NONE person ahead of STATE", -1, x -> x.seen(8, 3, 5));
        LIVELY.refused("p33 BAD ahead of STATE: a WALL", -2, x -> x.seen(0, 3, 24));
        FULL.refused("p33 NONE person ahead of FULL", -1, x -> x.seen(-1, 8, 12));
        FULL.refused("p33 NONE spot ahead of FULL", -1, x -> x.seen(0, -1, 12));
        FULL.refused("p33 BAD ahead of FULL", -2, x -> x.seen(0, 8, 24));
        FULL.refused("p33 STATE a WALL ahead of FULL", -3, x -> x.seen(0, 3, 12));
        FULL.refused("p33 STATE elsewhere", -3, x -> x.seen(0, 9, 11));
        FULL.refused("p33 FULL", -4, x -> x.seen(0, 8, 12));
        FULL.refused("p33 FULL, elsewhere", -4, x -> x.seen(0, 29, 23));
    }

    private static void seenStates() {
        LIVELY.refused("p33 STATE: a WALL", -3, x -> x.seen(0, 3, 6));
        LIVELY.refused("p33 STATE: a WALL, elsewhere", -3, x -> x.seen(0, 3, 5));
        LIVELY.refused("p33 STATE: elsewhere in that HOUR", -3, x -> x.seen(0, 9, 5));
        LIVELY.refused("p33 STATE: at SPOT 0 in that HOUR", -3, x -> x.seen(0, 0, 5));
        CHECK.due("p33 elsewhere in the next HOUR", Cities.lively().seen(0, 9, 6), 2);
        CHECK.due("p33 elsewhere in the HOUR ahead", Cities.lively().seen(0, 9, 4), 2);
        CHECK.due("p33 another PERSON elsewhere in that HOUR", Cities.lively().seen(1, 9, 5), 1);
        FreeCity x = new FreeCity();
        x.seen(4, 0, 0);
        CHECK.due("p33 seen at SPOT 0 in HOUR 0: elsewhere", x.seen(4, 1, 0), -3);
        CHECK.due("p33 the next PERSON in HOUR 0", x.seen(5, 1, 0), 1);
        CHECK.due("p33 the PERSON ahead in HOUR 23", x.seen(3, 1, 23), 1);
    }

    private static void seenTwelve() {
        for (int person = 0; person < 8; person++) {
            FreeCity x = new FreeCity();
            for (int i = 0; i < 12; i++) {
                CHECK.due("p33 in how many HOURS", x.seen(person, i, 2 * i + 1), i + 1);
            }
            for (int i = 0; i < 12; i++) {
                CHECK.due("t5 in 12 HOURS each at most", x.seen(person, i, 2 * i), -4);
            }
            CHECK.due("t5 each: another PERSON", x.seen((person + 1) % 8, 0, 0), 1);
            CHECK.due("t5 still 12", x.seen(person, 11, 23), 12);
        }
    }

    /** Where a person was seen it may be told once more, which is nothing new. */
    private static void seenAgain() {
        FreeCity x = new FreeCity();
        CHECK.due("p33 once", x.seen(0, 4, 4), 1);
        CHECK.due("p33 once more", x.seen(0, 4, 4), 1);
        Edges again = new Edges(CHECK, Cities::lively);
        again.refused("p33 once more, not refused", 1, y -> y.seen(0, 8, 5));
        FULL.refused("p33 once more of 12, not refused", 12, y -> y.seen(0, 8, 11));
    }

    private static void whoBounds() {
        LIVELY.bounds("p34 who's person", 0, 7, -1, (x, n) -> x.who(n, 1));
        LIVELY.bounds("p34 who's set of one DOOR", 0, 1, -2, (x, n) -> x.who(0, n));
        FULL.bounds("p34 who's set of six DOORS", 0, 63, -2, (x, n) -> x.who(0, n));
        new Edges(CHECK, FreeCity::new).bounds("p34 who's set of no DOOR", 0, 0, -2, (x, n) -> x.who(0, n));
        LIVELY.refused("p34 NONE ahead of BAD", -1, x -> x.who(8, 2));
        LIVELY.refused("p34 NONE ahead of BAD", -1, x -> x.who(-1, -1));
        CHECK.due("p34 the empty set", new FreeCity().who(7, 0), 1);
    }

    /** Whether a door painted from an hour to another could be by one who was seen at spots by hours. */
    private static void could(int due, int from, int to, int... seen) {
        FreeCity x = doors(0);
        x.door(0, from, to);
        String told = "";
        for (int i = 0; i + 1 < seen.length; i += 2) {
            x.seen(3, seen[i], seen[i + 1]);
            told += " at " + seen[i] + " in " + seen[i + 1];
        }
        CHECK.due("t5 painted at 0 in " + from + " .. " + to + ", seen" + told, x.who(3, 1), due);
    }

    private static void firstAndLastHour() {
        could(1, 0, 0);
        could(1, 23, 23);
        could(1, 0, 0, 0, 0);
        could(0, 0, 0, 1, 0);
        could(1, 0, 0, 1, 1);
        could(0, 0, 0, 2, 1);
        could(1, 23, 23, 0, 23);
        could(0, 23, 23, 6, 23);
        could(1, 23, 23, 6, 22);
        could(0, 23, 23, 12, 22);
        could(1, 23, 23, 29, 14);
        could(0, 23, 23, 29, 15);
        could(1, 0, 0, 29, 9);
        could(0, 0, 0, 29, 8);
    }

    private static void fromAndTo() {
        could(0, 5, 7, 1, 5, 1, 6, 1, 7);
        could(1, 5, 7, 1, 6, 1, 7);
        could(1, 5, 7, 1, 5, 1, 6);
        could(1, 5, 7, 1, 5, 1, 7);
        could(0, 5, 7, 2, 4, 1, 5, 1, 7, 2, 6);
        could(0, 5, 7, 0, 4, 1, 5, 1, 6, 1, 7, 0, 8);
        could(1, 5, 7, 1, 4, 0, 5, 1, 6);
        could(1, 5, 7, 1, 4, 0, 6, 1, 8);
        could(1, 5, 7, 0, 7);
        could(1, 5, 7, 2, 5, 2, 9);
        could(0, 5, 7, 2, 6, 2, 8);
        could(0, 5, 7, 2, 5, 2, 8);
    }

    private static void besideOrTheSame() {
        // From hour to hour one step by a side, or none; no corner, no row's end.
        could(1, 9, 9, 0, 8, 0, 10);
        could(1, 9, 9, 1, 8, 6, 10);
        could(0, 9, 9, 7, 8);
        could(1, 9, 9, 7, 7);
        FreeCity x = doors(6);
        x.door(6, 9, 9);
        x.seen(0, 5, 8);
        x.seen(1, 12, 8);
        x.seen(2, 7, 8);
        x.seen(4, 6, 8);
        int[] due = {0, 1, 1, 1, 1};
        for (int person = 0; person < 5; person++) {
            CHECK.due("t5 each BESIDE the one ahead or the same: " + person, x.who(person, 1), due[person]);
        }
    }

    private static void wherePersonsWereSeen() {
        FreeCity x = doors(0);
        x.door(0, 12, 12);
        x.seen(0, 0, 0);
        x.seen(0, 29, 8);
        CHECK.due("t5 nobody is so fast: not even the empty set", x.who(0, 0), 0);
        CHECK.due("t5 nor a DOOR later", x.who(0, 1), 0);
        CHECK.due("p35 nor any", x.night(0, 0), 0);
        x.seen(1, 0, 0);
        x.seen(1, 29, 9);
        CHECK.due("t5 just so fast", x.who(1, 0), 1);
        CHECK.due("t5 but not back", x.who(1, 1), 0);
        x.seen(2, 1, 22);
        x.seen(2, 3, 23);
        CHECK.due("t5 too fast behind the DOOR", x.who(2, 1), 0);
        x.seen(3, 1, 12);
        CHECK.due("t5 SEEN elsewhere in that HOUR", x.who(3, 1), 0);
        x.seen(4, 0, 12);
        CHECK.due("t5 SEEN there in that HOUR", x.who(4, 1), 1);
    }

    private static void oneDoorInAnHour() {
        for (int doors = 1; doors <= 6; doors++) {
            for (int hours = 1; hours <= 6; hours++) {
                FreeCity x = doors(14);
                for (int i = 0; i < doors; i++) {
                    x.door(14, 10, 9 + hours);
                }
                int most = Math.min(doors, hours);
                CHECK.due("t5 one DOOR in an HOUR: all of " + doors, x.who(0, (1 << doors) - 1), hours >= doors ? 1 : 0);
                CHECK.due("p35 MOST in " + hours + " HOURS", x.night(0, 0), most);
                CHECK.due("p35 the least set", x.night(0, 1), (1 << most) - 1);
            }
        }
        FreeCity x = doors(14, 15);
        x.door(14, 3, 3);
        x.door(15, 4, 4);
        x.door(15, 3, 3);
        CHECK.due("t5 in HOURS one behind the other", x.who(0, 3), 1);
        CHECK.due("t5 at two SPOTS in one HOUR", x.who(0, 5), 0);
        CHECK.due("t5 at one SPOT in two HOURS", x.who(0, 6), 1);
    }

    private static void noWalls() {
        FreeCity x = doors(0);
        x.door(0, 12, 12);
        x.seen(0, 2, 8);
        x.seen(1, 1, 3);
        x.seen(2, 6, 11);
        x.yard(1, 5);
        CHECK.due("t5 round the WALL by four STEPS", x.who(0, 1), 1);
        CHECK.due("t5 SEEN where a WALL is now", x.who(1, 0), 0);
        CHECK.due("t5 not by the WALL", x.who(2, 1), 1);
        x.yard(8, 5);
        CHECK.due("t5 no way but by three more", x.who(0, 1), 0);
        FreeCity y = doors(0);
        y.door(0, 12, 12);
        for (int spot = 1; spot < 30; spot++) {
            y.yard(spot, 5);
        }
        CHECK.due("t5 always at the DOOR", y.who(0, 1), 1);
        FreeCity z = new FreeCity();
        for (int spot = 0; spot < 30; spot++) {
            z.yard(spot, 5);
        }
        CHECK.due("t5 no SPOTS but WALLS", z.who(0, 0), 0);
        CHECK.due("p35 none", z.night(0, 0), 0);
        z.yard(29, 0);
        CHECK.due("t5 one SPOT", z.who(0, 0), 1);
    }

    private static void nightBounds() {
        LIVELY.bounds("p35 night's person", 0, 7, -1, (x, n) -> x.night(n, 0));
        LIVELY.bounds("p35 night's what", 0, 1, -1, (x, n) -> x.night(0, n));
        LIVELY.refused("p35 both NONE", -1, x -> x.night(8, 2));
        for (int person = 0; person < 8; person++) {
            CHECK.due("p35 no DOORS", new FreeCity().night(person, 0), 0);
            CHECK.due("p35 no DOORS", new FreeCity().night(person, 1), 0);
        }
    }

    private static void mostDoors() {
        FreeCity x = doors(0, 1, 2, 3, 4, 5);
        for (int i = 0; i < 6; i++) {
            x.door(i, 10 + i, 10 + i);
        }
        CHECK.due("p35 all six", x.night(0, 0), 6);
        CHECK.due("p35 all six", x.night(0, 1), 63);
        x.seen(1, 0, 11);
        CHECK.due("p35 without the rest that is a STEP too far", x.night(1, 1), 1);
        x.seen(2, 5, 14);
        CHECK.due("p35 without those ahead", x.night(2, 1), 32);
        x.seen(3, 3, 13);
        x.seen(3, 3, 14);
        CHECK.due("p35 up to there", x.night(3, 0), 4);
        CHECK.due("p35 up to there", x.night(3, 1), 15);
    }

    private static void leastOfSets() {
        FreeCity x = doors(0, 29);
        x.door(29, 10, 10);
        x.door(0, 10, 10);
        CHECK.due("p35 one of two: the least as bits", x.night(0, 1), 1);
        x.seen(1, 0, 10);
        CHECK.due("p35 it could be the other alone", x.night(1, 1), 2);
        x.door(0, 11, 11);
        CHECK.due("p35 two of three", x.night(0, 0), 2);
        CHECK.due("p35 more ahead of less", x.night(0, 1), 6);
        x.door(29, 9, 9);
        CHECK.due("p35 of two sets of two the least: 6 and 9", x.night(0, 1), 6);
        FreeCity y = doors(0, 29);
        y.door(0, 10, 10);
        y.door(29, 10, 10);
        y.door(29, 11, 11);
        y.door(0, 11, 11);
        CHECK.due("p35 of two sets of two the least: 6 and 9", y.night(0, 1), 6);
        y.seen(0, 0, 12);
        CHECK.due("p35 9 alone", y.night(0, 1), 9);
    }

    private static void sureBounds() {
        new Edges(CHECK, FreeCity::new).beyond("p36 sure's door, none", 0, -1, -1, (x, n) -> x.sure(n));
        LIVELY.beyond("p36 sure's door, one", 0, 0, -1, (x, n) -> x.sure(n));
        FULL.beyond("p36 sure's door, six", 0, 5, -1, (x, n) -> x.sure(n));
        CHECK.due("p36 several COULD", Cities.lively().sure(0), -5);
        CHECK.due("p36 the last DOOR", Cities.crammed().sure(5), -5);
    }

    private static FreeCity allBut(int... persons) {
        FreeCity x = doors(0);
        x.door(0, 12, 12);
        for (int person = 0; person < 8; person++) {
            boolean out = false;
            for (int each : persons) {
                out |= each == person;
            }
            if (!out) {
                x.seen(person, 29, 12);
            }
        }
        return x;
    }

    private static void sureOfEachPerson() {
        CHECK.due("p36 none COULD", allBut().sure(0), -5);
        for (int person = 0; person < 8; person++) {
            CHECK.due("p36 just one COULD", allBut(person).sure(0), person);
            for (int other = 0; other < person; other++) {
                CHECK.due("p36 several COULD", allBut(other, person).sure(0), -5);
            }
        }
        CHECK.due("p36 three COULD", allBut(1, 2, 3).sure(0), -5);
        CHECK.due("p36 all COULD", allBut(0, 1, 2, 3, 4, 5, 6, 7).sure(0), -5);
    }

    /** A door counts alone, though with the others its painter could not have done it. */
    private static void sureAlone() {
        FreeCity x = allBut(5);
        x.yard(29, 4);
        x.door(29, 13, 13);
        CHECK.due("p36 (alone): the first", x.sure(0), 5);
        CHECK.due("p34 not both", x.who(5, 3), 0);
        CHECK.due("p36 (alone): the second, which all COULD", x.sure(1), -5);
    }
}
