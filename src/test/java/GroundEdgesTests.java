/** The edges of Terms 1 and of promises 1 to 5: a new object, ground, steps, days, the tape's bytes. */
final class GroundEdgesTests {
    private static final Check CHECK = new Check("GroundEdgesTests");
    private static final Edges NEW = new Edges(CHECK, FreeCity::new);
    private static final Edges LIVELY = new Edges(CHECK, Cities::lively);
    private static final Edges FULL = new Edges(CHECK, Cities::crammed);

    public static void main(String[] args) {
        newObject();
        newSettings();
        columnsAndRows();
        groundsThatAreNoWalls();
        wallIsFarFromAll();
        noWay();
        yardBounds();
        yardWhatItWas();
        yardOfShips();
        yardOfDoors();
        yardOrder();
        lineBounds();
        dayBounds();
        dayToTheLast();
        dayBeyond();
        actNumbers();
        feedBounds();
        feedBytes();
        feedToTheFull();
        feedFull();
        CHECK.end();
    }

    private static void newObject() {
        for (int spot = 0; spot < 30; spot++) {
            CHECK.due("p1 STREETS alone: spot " + spot, new FreeCity().yard(spot, 5), 0);
        }
        FreeCity x = new FreeCity();
        for (int what = 0; what <= 10; what++) {
            CHECK.due("p1 count " + what, x.count(what), 0);
        }
        for (int tongue = 0; tongue <= 3; tongue++) {
            for (int act : new int[] {0, 10799}) {
                for (int day : new int[] {0, 999}) {
                    CHECK.due("p1 no TEXTS: force of " + tongue, x.force(tongue, act, day), 0);
                    CHECK.due("p1 no TEXTS: why of " + tongue, x.why(tongue, act, day), -5);
                }
            }
        }
        for (int a = 0; a < 3; a++) {
            CHECK.due("p1 no TEXTS: unlike", x.unlike(a, (a + 1) % 3, 999, 0), 0);
            CHECK.due("p1 no TEXTS: least unlike", x.unlike(a, (a + 1) % 3, 999, 1), -5);
        }
        CHECK.due("p1 no right", x.act(0, 0, 9), 0);
        CHECK.due("p1 no ring", x.again(-1), 0);
        CHECK.due("p1 no image", x.undo(), -3);
    }

    private static void newSettings() {
        FreeCity x = new FreeCity();
        CHECK.due("t1 TODAY is 0 at first", x.count(2), 0);
        CHECK.due("t3 TERM is 30 at first", x.term(0, 30), 30);
        CHECK.due("t3 STEP is 7 at first", x.term(1, 7), 7);
        for (int good = 0; good < 4; good++) {
            CHECK.due("t4 TARIFF is 10 at first", x.tariff(0, good, 10), 10);
        }
        for (int side = 0; side < 3; side++) {
            CHECK.due("t4 PARTS are 1 each at first", x.tariff(1, side, 1), 1);
            CHECK.due("t4 QUOTA is 0 at first", x.left(1, side), 0);
            CHECK.due("t4 a PURSE is empty at first", x.whole(0, side), 0);
        }
        for (int list = 0; list < 6; list++) {
            CHECK.due("t6 VOTES are 0 at first", x.vote(list, 0), 0);
        }
    }

    private static void columnsAndRows() {
        for (int a = 0; a < 30; a++) {
            FreeCity x = new FreeCity();
            for (int b = 0; b < 30; b++) {
                int due = Math.abs(a % 6 - b % 6) + Math.abs(a / 6 - b / 6);
                CHECK.due("t1 column p modulo 6, row p by 6: line " + a + " " + b, x.line(a, b), due);
            }
        }
    }

    private static void groundsThatAreNoWalls() {
        for (int ground = 0; ground <= 5; ground++) {
            FreeCity x = new FreeCity();
            x.yard(6, 5);
            x.yard(1, ground);
            CHECK.due("t1 STEPS on ground " + ground, x.line(0, 2), ground == 5 ? 99 : 2);
            CHECK.due("t1 STEPS to ground " + ground, x.line(2, 1), ground == 5 ? 99 : 1);
            CHECK.due("t1 STEPS from ground " + ground, x.line(1, 7), ground == 5 ? 99 : 1);
        }
    }

    private static void wallIsFarFromAll() {
        for (int wall : new int[] {0, 5, 14, 24, 29}) {
            FreeCity x = new FreeCity();
            x.yard(wall, 5);
            for (int other = 0; other < 30; other++) {
                int due = other == wall ? 0 : 99;
                CHECK.due("t1 a WALL is FAR from all but itself: " + wall + " " + other, x.line(wall, other), due);
                CHECK.due("t1 a WALL is FAR from all but itself: " + other + " " + wall, x.line(other, wall), due);
            }
        }
    }

    private static void noWay() {
        FreeCity x = new FreeCity();
        for (int row = 0; row < 5; row++) {
            x.yard(row * 6 + 2, 5);
        }
        for (int row = 0; row < 5; row++) {
            CHECK.due("t1 99: no way", x.line(row * 6 + 1, row * 6 + 3), 99);
            CHECK.due("t1 no way round the edge", x.line(row * 6, 5), 99);
            CHECK.due("t1 a way on one side", x.line(row * 6 + 3, row * 6 + 5), 2);
        }
        x.yard(26, 3);
        CHECK.due("t1 through the one gap", x.line(1, 3), 4 + 2 + 4);
        // A wall without its corner: steps go by sides, never by corners.
        FreeCity y = new FreeCity();
        y.yard(1, 5);
        y.yard(6, 5);
        CHECK.due("t1 BESIDE by sides, not by corners", y.line(0, 7), 99);
        CHECK.due("t1 closed in, but itself", y.line(0, 0), 0);
    }

    private static void yardBounds() {
        NEW.bounds("p2 yard's spot", 0, 29, -1, (x, n) -> x.yard(n, 5));
        LIVELY.beyond("p2 yard's spot", 0, 29, -1, (x, n) -> x.yard(n, 0));
        NEW.bounds("p2 yard's ground", 0, 5, -2, (x, n) -> x.yard(29, n));
        LIVELY.beyond("p2 yard's ground", 0, 5, -2, (x, n) -> x.yard(20, n));
    }

    private static void yardWhatItWas() {
        FreeCity x = new FreeCity();
        int was = 0;
        for (int ground : new int[] {1, 2, 3, 4, 5, 0, 5, 4, 3, 2, 1, 1, 0}) {
            CHECK.due("p2 what it was", x.yard(0, ground), was);
            was = ground;
        }
    }

    private static void yardOfShips() {
        for (int ground = 0; ground <= 5; ground++) {
            int told = ground;
            LIVELY.refused("p2 a SHIP is at it: " + ground, -3, x -> x.yard(0, told));
        }
        for (int how = 0; how < 3; how++) {
            FreeCity x = new FreeCity();
            x.yard(29, 2);
            x.ship(0, 5);
            x.berth(0, 29);
            CHECK.due("p2 a SHIP is at the DOCK", x.yard(29, 0), -3);
            x.leave(0, how);
            CHECK.due("p2 no SHIP is at it, left by " + how, x.yard(29, 0), 2);
        }
    }

    private static void yardOfDoors() {
        for (int ground = 0; ground <= 5; ground++) {
            int told = ground;
            LIVELY.refused("p2 a DOOR that was told painted: " + ground, -3, x -> x.yard(2, told));
        }
        CHECK.due("p2 a DOOR that was not told painted", Cities.lively().yard(7, 0), 4);
    }

    private static void yardOrder() {
        LIVELY.refused("p2 NONE ahead of BAD", -1, x -> x.yard(30, 6));
        LIVELY.refused("p2 BAD ahead of STATE, a SHIP", -2, x -> x.yard(0, 6));
        LIVELY.refused("p2 BAD ahead of STATE, a DOOR", -2, x -> x.yard(2, -1));
    }

    private static void lineBounds() {
        NEW.bounds("p3 line's a", 0, 29, -1, (x, n) -> x.line(n, 14));
        NEW.bounds("p3 line's b", 0, 29, -1, (x, n) -> x.line(14, n));
        LIVELY.beyond("p3 line's a, to a WALL", 0, 29, -1, (x, n) -> x.line(n, 3));
        LIVELY.refused("p3 both", -1, x -> x.line(30, 30));
        LIVELY.refused("p3 both alike", -1, x -> x.line(-1, -1));
    }

    private static void dayBounds() {
        NEW.bounds("p4 day's n", 1, 50, -2, (x, n) -> x.day(n));
        LIVELY.beyond("p4 day's n", 1, 50, -2, (x, n) -> x.day(n));
        CHECK.due("p4 one DAY", new FreeCity().day(1), 1);
        CHECK.due("p4 fifty DAYS", new FreeCity().day(50), 50);
    }

    private static FreeCity onDay(int day) {
        FreeCity x = new FreeCity();
        while (x.count(2) < day) {
            x.day(Math.min(50, day - x.count(2)));
        }
        return x;
    }

    private static void dayToTheLast() {
        CHECK.due("p4 to 999 by 50", onDay(949).day(50), 999);
        CHECK.due("p4 to 999 by 1", onDay(998).day(1), 999);
    }

    /** What the refused days would have brought about is seen by an appeal that no council hears. */
    private static void dayBeyond() {
        Edges near = new Edges(CHECK, () -> appealedOn(994));
        near.refused("p4 beyond 999 by one", -2, x -> x.day(6));
        near.refused("p4 beyond 999 by 45", -2, x -> x.day(50));
        CHECK.due("p4 to 999 itself", appealedOn(994).day(5), 999);
        Edges last = new Edges(CHECK, () -> appealedOn(999));
        last.refused("p4 beyond 999 from 999", -2, x -> x.day(1));
        last.refused("p4 beyond 999 from 999", -2, x -> x.day(50));
        last.refused("p4 n is no number of DAYS", -2, x -> x.day(0));
    }

    private static FreeCity appealedOn(int day) {
        FreeCity x = onDay(day);
        x.term(1, 1);
        x.rule(0, 0, true);
        x.appeal(0, 0, 100);
        return x;
    }

    private static void actNumbers() {
        int[][] acts = {{0, 0, 0, 0}, {0, 0, 0, 23}, {0, 0, 4, 0}, {0, 29, 0, 0}, {2, 0, 0, 0}, {1, 17, 3, 11}, {2, 29, 4, 23}};
        for (int[] each : acts) {
            FreeCity x = new FreeCity();
            String hours = each[3] == 0 ? "h<1" : "h>" + (each[3] - 1) + "&h<" + (each[3] + 1);
            Check.textOf(x, 0, 0, "let s=" + each[0] + "&p=" + each[1] + "&m=" + each[2] + "&" + hours);
            int number = ((each[0] * 30 + each[1]) * 5 + each[2]) * 24 + each[3];
            CHECK.due("t1 one ACT", x.unlike(0, 1, 0, 0), 1);
            CHECK.due("t1 AN ACT's number", x.unlike(0, 1, 0, 1), number);
            CHECK.due("t1 the ACT of that number", x.force(0, number, 0), 1);
            CHECK.due("t1 the last ACT is 10799", x.force(0, 10800, 0), -2);
        }
    }

    private static void feedBounds() {
        NEW.bounds("p5 feed's n", 1, 8, -2, (x, n) -> x.feed(0x6C6574206D3D3131L, n));
        LIVELY.beyond("p5 feed's n", 1, 8, -2, (x, n) -> x.feed(-1L, n));
        for (int n = 1; n <= 8; n++) {
            CHECK.due("p5 how many THE TAPE has", new FreeCity().feed(-1L, n), n);
        }
    }

    /** The tape tells its bytes by the fault, which is where they are no text. */
    private static void feedBytes() {
        String text = "let m=12";
        for (int n = 1; n <= 8; n++) {
            FreeCity x = new FreeCity();
            long w = 0x7878787878787878L;
            for (int i = 0; i < n; i++) {
                w = w << 8 | text.charAt(i);
            }
            x.feed(w, n);
            CHECK.due("p5 the " + n + " lowest bytes, the highest first", x.text(0, 0), n < 7 ? -10 - n : 0);
        }
        FreeCity y = new FreeCity();
        y.feed(0x6C65, 2);
        y.feed(0x74206DL, 3);
        CHECK.due("p5 they come behind", y.feed(0x3D34L, 2), 7);
        CHECK.due("p5 they come behind", y.text(0, 0), 0);
        CHECK.due("p5 it is let m=4", y.unlike(0, 1, 0, 1), 4 * 24);
        CHECK.due("p5 THE TAPE begins anew", y.feed(0x78, 1), 1);
    }

    private static void feedToTheFull() {
        for (int n = 1; n <= 8; n++) {
            FreeCity x = taped(120 - n);
            CHECK.due("p5 120 at most: " + n, x.feed(0, n), 120);
            FreeCity y = taped(121 - n);
            CHECK.due("p5 one more than 120: " + n, y.feed(0, n), -4);
            CHECK.due("p5 THE TAPE is as it was", y.count(10), 121 - n);
            CHECK.due("p5 less has its place", n > 1 ? y.feed(0, n - 1) : y.count(10), 120);
        }
    }

    private static FreeCity taped(int bytes) {
        FreeCity x = new FreeCity();
        while (x.count(10) < bytes) {
            x.feed(0x6C65742073333131L, Math.min(8, bytes - x.count(10)));
        }
        return x;
    }

    private static void feedFull() {
        for (int n = 1; n <= 8; n++) {
            int told = n;
            FULL.refused("p5 FULL: " + n, -4, x -> x.feed(0, told));
        }
        FULL.beyond("p5 BAD ahead of FULL", 1, 8, -2, (x, n) -> x.feed(0, n));
        new Edges(CHECK, () -> taped(115)).refused("p5 FULL, though some would have their place", -4, x -> x.feed(0, 6));
    }
}
