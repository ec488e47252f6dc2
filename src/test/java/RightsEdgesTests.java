/** The edges of Terms 3 and of promises 10 to 20, but for the council's: rights, rulings, rings, acts. */
final class RightsEdgesTests {
    private static final Check CHECK = new Check("RightsEdgesTests");
    private static final Edges NEW = new Edges(CHECK, FreeCity::new);
    private static final Edges LIVELY = new Edges(CHECK, Cities::lively);
    private static final Edges FULL = new Edges(CHECK, Cities::crammed);

    public static void main(String[] args) {
        useBounds();
        useFull();
        quotaBounds();
        quotaFull();
        quotaOfASide();
        ruleBounds();
        ruleFull();
        numberedFromZero();
        fiftyByEachCall();
        leanBounds();
        leanRefusals();
        leanHowMany();
        fallBounds();
        fallThroughOthers();
        fallHowMany();
        heldUpThroughOthers();
        heldUpByTwo();
        leaningToldLater();
        againBounds();
        ringSizes();
        ringRows();
        ringOfFallenOnes();
        actBounds();
        actWraps();
        whoseBounds();
        whoseNumbers();
        CHECK.end();
    }

    private static FreeCity ruled(int rulings) {
        FreeCity x = new FreeCity();
        for (int i = 0; i < rulings; i++) {
            x.rule(i % 30, i / 30, true);
        }
        return x;
    }

    private static void useBounds() {
        LIVELY.bounds("p10 use's kind", 1, 3, -1, (x, n) -> x.use(n, 0, 0, 0));
        LIVELY.bounds("p10 use's side", 0, 2, -1, (x, n) -> x.use(1, n, 0, 0));
        LIVELY.bounds("p10 use's spot", 0, 29, -1, (x, n) -> x.use(2, 0, n, 0));
        LIVELY.bounds("p10 use's matter", 0, 4, -1, (x, n) -> x.use(3, 0, 0, n));
        NEW.bounds("p10 use's kind", 1, 3, -1, (x, n) -> x.use(n, 2, 29, 4));
        LIVELY.refused("p10 all of them NONE", -1, x -> x.use(4, 3, 30, 5));
    }

    private static void useFull() {
        FULL.refused("p10 FULL, a USE", -4, x -> x.use(1, 0, 0, 0));
        FULL.refused("p10 FULL, a RAIL", -4, x -> x.use(2, 0, 0, 0));
        FULL.refused("p10 FULL, a POST", -4, x -> x.use(3, 2, 29, 4));
        FULL.refused("p10 NONE kind ahead of FULL", -1, x -> x.use(4, 0, 0, 0));
        FULL.refused("p10 NONE side ahead of FULL", -1, x -> x.use(1, 3, 0, 0));
        FULL.refused("p10 NONE spot ahead of FULL", -1, x -> x.use(1, 0, 30, 0));
        FULL.refused("p10 NONE matter ahead of FULL", -1, x -> x.use(1, 0, 0, 5));
    }

    private static void quotaBounds() {
        LIVELY.bounds("p11 quota's kind", 4, 5, -1, (x, n) -> x.quota(n, 0, 0));
        LIVELY.bounds("p11 quota's side", 0, 2, -1, (x, n) -> x.quota(5, n, 0));
        LIVELY.bounds("p11 a QUOTA's n", 0, 9999, -2, (x, n) -> x.quota(5, 1, n));
        LIVELY.bounds("p11 a CUSTOMS' n", 0, 9999, -2, (x, n) -> x.quota(4, 1, n));
        LIVELY.refused("p11 NONE kind ahead of BAD", -1, x -> x.quota(3, 0, 10000));
        LIVELY.refused("p11 NONE side ahead of BAD", -1, x -> x.quota(5, 3, -1));
    }

    private static void quotaFull() {
        FULL.refused("p11 FULL, a CUSTOMS", -4, x -> x.quota(4, 0, 5));
        FULL.refused("p11 FULL: the SIDE's QUOTA stays", -4, x -> x.quota(5, 1, 500));
        FULL.refused("p11 NONE kind ahead of FULL", -1, x -> x.quota(6, 0, 5));
        FULL.refused("p11 NONE side ahead of FULL", -1, x -> x.quota(5, -1, 5));
        FULL.refused("p11 BAD ahead of FULL", -2, x -> x.quota(5, 1, 10000));
    }

    private static void quotaOfASide() {
        for (int side = 0; side < 3; side++) {
            FreeCity x = new FreeCity();
            x.quota(4, side, 50);
            CHECK.due("p11 a CUSTOMS' n is no QUOTA", x.left(1, side), 0);
            x.quota(5, side, 9999);
            CHECK.due("p11 a QUOTA's n is the SIDE's", x.left(1, side), 9999);
            x.quota(4, side, 3);
            CHECK.due("p11 a CUSTOMS' n is no QUOTA", x.left(1, side), 9999);
            x.quota(5, side, 1);
            CHECK.due("p11 from now on", x.left(1, side), 1);
            x.quota(5, side, 0);
            CHECK.due("p11 none from now on", x.left(1, side), 0);
            CHECK.due("p11 of another SIDE", x.left(1, (side + 1) % 3), 0);
            CHECK.due("p11 each keeps its n", x.whose(1, 5), 9999);
        }
    }

    private static void ruleBounds() {
        LIVELY.bounds("p12 rule's spot", 0, 29, -1, (x, n) -> x.rule(n, 0, true));
        LIVELY.bounds("p12 rule's matter", 0, 4, -1, (x, n) -> x.rule(0, n, false));
        NEW.bounds("p12 rule's spot", 0, 29, -1, (x, n) -> x.rule(n, 4, false));
        LIVELY.refused("p12 both NONE", -1, x -> x.rule(30, 5, true));
    }

    private static void ruleFull() {
        FULL.refused("p12 FULL, LET", -4, x -> x.rule(0, 0, true));
        FULL.refused("p12 FULL, not", -4, x -> x.rule(29, 4, false));
        FULL.refused("p12 NONE spot ahead of FULL", -1, x -> x.rule(30, 0, true));
        FULL.refused("p12 NONE matter ahead of FULL", -1, x -> x.rule(0, -1, true));
    }

    private static void numberedFromZero() {
        FreeCity x = new FreeCity();
        CHECK.due("t3 the first RIGHT is 0", x.rule(0, 0, true), 0);
        CHECK.due("t3 an APPEAL is a RIGHT", x.appeal(0, 0, 1), 1);
        CHECK.due("t3 a refused one has no number", x.rule(30, 0, true), -1);
        CHECK.due("t3 a refused one has no number", x.appeal(0, 0, 1), -3);
        CHECK.due("t3 a USE", x.use(1, 0, 0, 0), 2);
        CHECK.due("t3 a QUOTA", x.quota(5, 0, 0), 3);
        CHECK.due("t3 how many", x.count(1), 4);
    }

    /** The fiftieth right is given by each of the calls, and no more by any. */
    private static void fiftyByEachCall() {
        for (int by = 0; by < 4; by++) {
            FreeCity x = ruled(49);
            CHECK.due("t3 RIGHTS, 50: " + by, give(x, by), 49);
            CHECK.due("t3 RIGHTS, 50", x.count(1), 50);
            for (int then = 0; then < 4; then++) {
                CHECK.due("t3 RIGHTS, 50 at most: " + by + " " + then, give(x, then), by == 3 && then == 3 ? -3 : -4);
            }
            CHECK.due("t3 RIGHTS, 50 at most", x.count(1), 50);
        }
    }

    private static int give(FreeCity x, int by) {
        switch (by) {
            case 0:
                return x.use(3, 0, 0, 0);
            case 1:
                return x.quota(4, 0, 0);
            case 2:
                return x.rule(0, 0, false);
            default:
                return x.appeal(48, 0, 9);
        }
    }

    private static void leanBounds() {
        // Rulings of the lively city: 2, 3, 4, 6 and 8; a post, a quota, appeals, and none beyond 8.
        for (int other : new int[] {-1, 0, 1, 5, 7, 9, 10, 50, Integer.MIN_VALUE, Integer.MAX_VALUE}) {
            LIVELY.refused("p13 lean's ruling " + other, -1, x -> x.lean(other, 4));
            LIVELY.refused("p13 lean's on " + other, -1, x -> x.lean(4, other));
            LIVELY.refused("p13 NONE ahead of BAD: " + other, -1, x -> x.lean(other, other));
        }
        for (int on : new int[] {2, 3, 6, 8}) {
            CHECK.due("p13 on a lesser or a greater one: " + on, Cities.lively().lean(4, on), 1);
        }
    }

    private static void leanRefusals() {
        for (int ruling : new int[] {2, 3, 4, 6, 8}) {
            LIVELY.refused("p13 BAD: on itself " + ruling, -2, x -> x.lean(ruling, ruling));
        }
        LIVELY.refused("p13 STATE: it does", -3, x -> x.lean(3, 2));
        LIVELY.refused("p13 STATE: it does", -3, x -> x.lean(8, 4));
        CHECK.due("p13 the other way round it doesn't", Cities.lively().lean(4, 8), 1);
    }

    private static void leanHowMany() {
        FreeCity x = ruled(50);
        for (int on = 48; on >= 0; on--) {
            CHECK.due("p13 on how many", x.lean(49, on), 49 - on);
        }
        for (int on = 1; on < 50; on++) {
            CHECK.due("p13 on how many", x.lean(0, on), on);
            CHECK.due("p13 it does", x.lean(0, on), -3);
        }
    }

    private static void fallBounds() {
        LIVELY.bounds("p16 fall's what", 0, 3, -1, (x, n) -> x.fall(4, n));
        LIVELY.beyond("p16 fall's what, of a FALLEN one", 0, 3, -1, (x, n) -> x.fall(2, n));
        for (int other : new int[] {-1, 0, 1, 5, 7, 9, 50, Integer.MIN_VALUE, Integer.MAX_VALUE}) {
            for (int what = 0; what < 4; what++) {
                int told = what;
                LIVELY.refused("p16 no RULING: " + other, -1, x -> x.fall(other, told));
            }
        }
        int[][] due = {{2, 1, 0, 0, 0}, {3, 1, 0, 0, 0}, {4, 0, 0, 1, 2}, {6, 0, 1, 0, 1}, {8, 0, 0, 1, 1}};
        FreeCity x = Cities.lively();
        for (int[] row : due) {
            for (int what = 0; what < 4; what++) {
                CHECK.due("p16 what " + what + " of " + row[0], x.fall(row[0], what), row[what + 1]);
            }
        }
    }

    /** A row of fifty, each leaning on the next; or on the one ahead. */
    private static FreeCity row(boolean onNext, int rulings) {
        FreeCity x = ruled(rulings);
        for (int i = 0; i < rulings - 1; i++) {
            x.lean(onNext ? i : i + 1, onNext ? i + 1 : i);
        }
        return x;
    }

    private static void fallThroughOthers() {
        for (int side = 0; side < 2; side++) {
            boolean onNext = side == 1;
            int last = onNext ? 48 : 0;
            FreeCity x = row(onNext, 49);
            x.appeal(24, 0, 51);
            x.day(1);
            for (int i = 0; i < 49; i++) {
                boolean falls = onNext ? i <= 24 : i >= 24;
                CHECK.due("t3 FALLEN, through others: " + i, x.fall(i, 0), falls ? 1 : 0);
                CHECK.due("t3 STANDING: " + i, x.fall(i, 2), falls ? 0 : 1);
                CHECK.due("t3 not HELD UP: " + i, x.fall(i, 1), 0);
                CHECK.due("p16 those that aren't FALLEN: " + i, x.fall(i, 3), falls ? 0 : Math.abs(i - 24));
            }
            CHECK.due("t3 the one on which all LEAN", x.fall(last, 0), 0);
        }
    }

    private static void fallHowMany() {
        FreeCity x = row(true, 50);
        for (int i = 0; i < 50; i++) {
            CHECK.due("p16 how many fall, it, too: " + i, x.fall(i, 3), i + 1);
        }
        x.lean(49, 0);
        for (int i = 0; i < 50; i++) {
            CHECK.due("p16 in a round of fifty all fall: " + i, x.fall(i, 3), 50);
        }
        CHECK.due("p16 one alone", ruled(1).fall(0, 3), 1);
    }

    private static void heldUpThroughOthers() {
        FreeCity x = row(true, 49);
        x.day(1);
        x.appeal(24, 1, 50);
        for (int i = 0; i < 49; i++) {
            CHECK.due("t3 HELD UP, by however many others: " + i, x.fall(i, 1), i <= 24 ? 1 : 0);
            CHECK.due("t3 STANDING: " + i, x.fall(i, 2), i <= 24 ? 0 : 1);
            CHECK.due("t3 not FALLEN: " + i, x.fall(i, 0), 0);
            CHECK.due("p16 HELD UP ones fall, too: " + i, x.fall(i, 3), i + 1);
        }
        x.day(7);
        for (int i = 0; i < 49; i++) {
            CHECK.due("t3 heard: HELD UP no more: " + i, x.fall(i, 1), 0);
            CHECK.due("t3 heard: STANDING: " + i, x.fall(i, 2), 1);
        }
    }

    private static void heldUpByTwo() {
        FreeCity x = ruled(3);
        x.lean(2, 1);
        x.day(1);
        x.appeal(1, 0, 0);
        x.appeal(1, 1, 0);
        x.day(7);
        CHECK.due("t3 one of both is heard", x.late(3, 0) * 10 + x.late(4, 0), 10);
        CHECK.due("t3 HELD UP by the other", x.fall(1, 1), 1);
        CHECK.due("t3 HELD UP by the other", x.fall(2, 2), 0);
        x.day(7);
        CHECK.due("t3 both are heard", x.fall(1, 1), 0);
        CHECK.due("t3 both are heard", x.fall(2, 2), 1);
        CHECK.due("t3 never HELD UP", x.fall(0, 1), 0);
    }

    /** What a ruling leans on may be told when that has long fallen, or is held up. */
    private static void leaningToldLater() {
        FreeCity x = ruled(6);
        x.lean(2, 1);
        x.appeal(0, 0, 51);
        x.day(1);
        x.appeal(3, 0, 0);
        CHECK.due("t3 STANDING, and that which LEANS on it", x.fall(1, 2) + x.fall(2, 2), 2);
        CHECK.due("p13 on a FALLEN one", x.lean(1, 0), 1);
        CHECK.due("t3 FALLEN is each that LEANS on a FALLEN one", x.fall(1, 0), 1);
        CHECK.due("t3 and each that LEANS on that", x.fall(2, 0), 1);
        CHECK.due("p13 on one that is HELD UP", x.lean(4, 3), 1);
        CHECK.due("t3 HELD UP with it", x.fall(4, 1), 1);
        CHECK.due("t3 not FALLEN", x.fall(4, 0), 0);
        CHECK.due("p13 one that is HELD UP LEANS on another", x.lean(3, 5), 1);
        CHECK.due("t3 that isn't HELD UP by it", x.fall(5, 1), 0);
        CHECK.due("t3 that STANDS", x.fall(5, 2), 1);
        CHECK.due("p13 a FALLEN one LEANS on another", x.lean(0, 5), 1);
        CHECK.due("t3 that STANDS still", x.fall(5, 2), 1);
        CHECK.due("p16 of those that aren't FALLEN: 5, 3 and 4", x.fall(5, 3), 3);
    }

    private static void againBounds() {
        Edges three = new Edges(CHECK, () -> {
            FreeCity x = row(true, 3);
            x.lean(2, 0);
            return x;
        });
        three.bounds("p18 again's i", -1, 2, -1, (x, n) -> x.again(n));
        NEW.beyond("p18 none: again's i", -1, -1, -1, (x, n) -> x.again(n));
        CHECK.due("p18 0: there is none", new FreeCity().again(-1), 0);
        CHECK.due("p18 none in a row", row(true, 50).again(-1), 0);
        CHECK.due("p18 none in a row", row(false, 50).again(-1), 0);
    }

    private static void ringSizes() {
        for (int size : new int[] {2, 3, 4, 25, 49, 50}) {
            FreeCity x = row(true, 50);
            x.lean(49, 50 - size);
            CHECK.due("t3 RING of " + size, x.again(-1), size);
            for (int i = 0; i < size; i++) {
                CHECK.due("t3 each on the next one: " + i, x.again(i), 50 - size + i);
            }
            CHECK.due("p18 none such", x.again(size), -1);
            FreeCity y = row(false, size);
            y.lean(0, size - 1);
            CHECK.due("t3 RING of " + size, y.again(-1), size);
            for (int i = 0; i < size; i++) {
                CHECK.due("t3 told from the least one on: " + i, y.again(i), i == 0 ? 0 : size - i);
            }
        }
        // Without a round many that lean are no ring.
        FreeCity z = ruled(12);
        for (int i = 0; i < 12; i++) {
            for (int j = 0; j < i; j++) {
                z.lean(i, j);
            }
        }
        CHECK.due("t3 no RING", z.again(-1), 0);
        CHECK.due("p18 none such", z.again(0), -1);
    }

    private static void ring(int rulings, String leans, int... due) {
        FreeCity x = ruled(rulings);
        for (String each : leans.split(" ")) {
            x.lean(each.charAt(0) - 'a', each.charAt(1) - 'a');
        }
        CHECK.due("t3 RING of " + leans, x.again(-1), due.length);
        for (int i = 0; i < due.length; i++) {
            CHECK.due("t3 RING of " + leans + ": " + i, x.again(i), due[i]);
        }
    }

    private static void ringRows() {
        ring(5, "ab bc ca de ed", 3, 4);
        ring(5, "bc cb ad da", 0, 3);
        ring(6, "ad da ab ba", 0, 1);
        ring(6, "cf fc ce ec cd dc", 2, 3);
        ring(6, "ba cb ac bd dc", 0, 2, 1);
        // Of rows that begin alike the later ones tell: 0 1 5 and 0 1 4; 0 2 3 is greater.
        ring(6, "ab bf fa be ea ac cd da", 0, 1, 4);
        // Leaning on the least would lead into a longer round.
        ring(7, "ab bc cd de ea af fg ga", 0, 5, 6);
        // The longer one has the lesser rulings.
        ring(8, "ab bc ca gh hg", 6, 7);
    }

    private static void ringOfFallenOnes() {
        FreeCity x = row(true, 4);
        x.lean(1, 0);
        x.lean(3, 2);
        x.appeal(0, 0, 51);
        x.day(1);
        CHECK.due("t3 both are FALLEN", x.fall(0, 0) + x.fall(1, 0), 2);
        CHECK.due("t3 RULINGS that LEAN on one another, FALLEN or not", x.again(-1), 2);
        CHECK.due("t3 the least row", x.again(0), 0);
        CHECK.due("t3 the least row", x.again(1), 1);
    }

    private static void actBounds() {
        LIVELY.bounds("p19 act's act", 0, 2, 0, (x, n) -> Math.abs(x.act(1, n, 5)));
        LIVELY.bounds("p19 act's right", 0, 8, 0, (x, n) -> Math.abs(x.act(n, 0, 5)));
        FreeCity x = Cities.lively();
        CHECK.due("p19 the first right's, n 6 of side 1", x.act(0, 0, 5), 11);
        CHECK.due("p19 the last right's, n 20 of side 2", x.act(8, 1, 5), 23);
    }

    private static void wraps(String what, int got, long due) {
        CHECK.due("p19 ints, wrapping: " + what, got, (int) due);
    }

    private static void actWraps() {
        FreeCity x = new FreeCity();
        x.use(1, 2, 29, 4); // 0: n 33, d 2
        x.use(2, 1, 6, 1); // 1: n 7, d 1
        x.use(3, 2, 6, 1); // 2: n 7, d 2
        x.quota(4, 1, 9999); // 3
        x.quota(5, 2, 9999); // 4
        x.rule(0, 0, false); // 5: n 20, d 2
        x.appeal(5, 1, 3); // 6: n 20, d 1
        int max = Integer.MAX_VALUE;
        int min = Integer.MIN_VALUE;
        wraps("binds of a USE", x.act(0, 0, max), max + 33L);
        wraps("binds of a USE at the last", x.act(0, 0, max - 33), max);
        wraps("gives of a USE", x.act(0, 1, min - 33), max - 1L);
        wraps("hangs of a USE", x.act(0, 2, 1 << 30), ((1L << 30) + 33 - 2) * 2);
        wraps("binds of a RAIL", x.act(1, 0, max), (max + 7L) * 3);
        wraps("binds of a RAIL", x.act(1, 0, 1 << 30), ((1L << 30) + 7) * 3);
        wraps("hangs of a RAIL", x.act(1, 2, 1 << 30), ((int) (((1L << 30) + 7) * 3) - 1 ^ 1) * 2L);
        wraps("hangs of a POST", x.act(2, 2, 1 << 30), ((1L << 30) + 7 - 2 ^ 2) * 2 + (8 - 2 ^ 2));
        wraps("binds of a CUSTOMS", x.act(3, 0, max), max + 5L + 9999);
        wraps("gives of a CUSTOMS", x.act(3, 1, min - 5 - 9999), max);
        wraps("gives of a QUOTA", x.act(4, 1, min - 5 - 9999 + 2), min);
        wraps("hangs of a QUOTA", x.act(4, 2, max), -((int) (max + 5L + 9999) - 2L) * 2);
        wraps("hangs of a RULING", x.act(5, 2, 1 << 30), (1L << 30) + 20 - ((1L << 30) + 20 - 2) * 2);
        wraps("hangs of a RULING", x.act(5, 2, min), min + 20L - (min + 20L - 2) * 2);
        long bound = (int) (max + 20L) ^ 9;
        wraps("hangs of an APPEAL, from the int ahead of the least", x.act(6, 2, min), bound - (bound - 1) * 2);
        wraps("binds of an APPEAL", x.act(6, 0, max), (int) (max + 20L) ^ 9);
        CHECK.due("p19 no such RIGHT", x.act(7, 0, max), 0);
    }

    private static void whoseBounds() {
        LIVELY.bounds("p20 whose's k", 0, 7, -1, (x, n) -> n == 7 ? x.whose(7, n) : x.whose(8, n));
        LIVELY.bounds("p20 whose's right", 0, 8, -1, (x, n) -> x.whose(n, 0));
        LIVELY.beyond("p20 NONE, not -6", 0, 8, -1, (x, n) -> x.whose(n, 3));
        LIVELY.refused("p20 both NONE", -1, x -> x.whose(9, 8));
        LIVELY.refused("p20 -6: it is of another KIND", -6, x -> x.whose(0, 2));
        LIVELY.refused("p20 -6: a RULING is no APPEAL", -6, x -> x.whose(8, 7));
    }

    private static void whoseNumbers() {
        FreeCity x = new FreeCity();
        x.use(1, 0, 0, 0);
        x.use(2, 0, 29, 4);
        x.use(3, 0, 29, 0);
        x.quota(4, 0, 0);
        x.quota(5, 0, 9999);
        x.rule(0, 0, true);
        x.rule(0, 0, false);
        x.appeal(5, 0, 100);
        x.appeal(6, 0, 100);
        int[] due = {0, 33, 29, 0, 9999, 10, 20, 10, 20};
        for (int right = 0; right < due.length; right++) {
            CHECK.due("t3 n of " + right, x.whose(right, 0), due[right]);
        }
        x.day(10);
        CHECK.due("t3 n of an overruled RULING", x.whose(5, 6), 10);
        CHECK.due("t3 n of a heard APPEAL", x.whose(8, 7), 20);
    }
}
