/** The edges of what Terms 3 say of appeals and the council, and of promises 14, 15 and 17. */
final class CouncilEdgesTests {
    private static final Check CHECK = new Check("CouncilEdgesTests");
    private static final Edges LIVELY = new Edges(CHECK, Cities::lively);
    private static final Edges FULL = new Edges(CHECK, Cities::crammed);

    public static void main(String[] args) {
        appealBounds();
        appealOfNoRuling();
        appealOfAFallenOne();
        appealTwice();
        appealOrder();
        appealFull();
        terms();
        termOfEachLength();
        termBounds();
        termWhatItWas();
        shares();
        steps();
        stepOnDayZero();
        oneOnEachDay();
        leastDayThenNumber();
        asTheDayGoesBy();
        otherSteps();
        fallenMeanwhile();
        nothingToHear();
        lateBounds();
        lateAnswers();
        CHECK.end();
    }

    private static FreeCity ruled(int rulings) {
        FreeCity x = new FreeCity();
        for (int i = 0; i < rulings; i++) {
            x.rule(i % 30, 0, true);
        }
        return x;
    }

    private static void appealBounds() {
        LIVELY.bounds("p14 appeal's side", 0, 1, -1, (x, n) -> x.appeal(8, n, 50));
        LIVELY.bounds("p14 appeal's share", 0, 100, -2, (x, n) -> x.appeal(8, 0, n));
        LIVELY.refused("p14 the city's SIDE makes none", -1, x -> x.appeal(8, 2, 50));
    }

    private static void appealOfNoRuling() {
        for (int other : new int[] {-1, 0, 1, 5, 7, 9, 50, Integer.MIN_VALUE, Integer.MAX_VALUE}) {
            LIVELY.refused("p14 no RULING: " + other, -1, x -> x.appeal(other, 0, 50));
            LIVELY.refused("p14 no RULING, ahead of BAD: " + other, -1, x -> x.appeal(other, 0, 101));
        }
    }

    private static void appealOfAFallenOne() {
        FreeCity x = ruled(4);
        x.lean(1, 0);
        x.lean(2, 1);
        x.appeal(0, 0, 51);
        CHECK.due("p14 not FALLEN yet", x.appeal(0, 1, 0), 5);
        x.day(1);
        CHECK.due("p14 STATE: it was overruled", x.appeal(0, 1, 50), -3);
        CHECK.due("p14 STATE: it LEANS on a FALLEN one", x.appeal(1, 0, 50), -3);
        CHECK.due("p14 STATE: it LEANS on such a one", x.appeal(2, 1, 50), -3);
        CHECK.due("p14 it stands", x.appeal(3, 0, 50), 6);
        LIVELY.refused("p14 STATE: it was overruled, by the other SIDE", -3, y -> y.appeal(2, 1, 50));
    }

    private static void appealTwice() {
        LIVELY.refused("p14 STATE: the SIDE made one", -3, x -> x.appeal(6, 0, 50));
        CHECK.due("p14 the other SIDE made none", Cities.lively().appeal(6, 1, 50), 9);
        FreeCity x = ruled(2);
        CHECK.due("p14 one by SIDE 1", x.appeal(0, 1, 50), 2);
        CHECK.due("p14 another one by SIDE 1", x.appeal(0, 1, 50), -3);
        CHECK.due("p14 of another RULING", x.appeal(1, 1, 50), 3);
        CHECK.due("p14 by SIDE 0", x.appeal(0, 0, 50), 4);
        CHECK.due("p14 another one by SIDE 0", x.appeal(0, 0, 50), -3);
        x.day(20);
        CHECK.due("p14 all were heard", x.late(4, 0), 1);
        CHECK.due("p14 another one, though it was heard", x.appeal(0, 1, 50), -3);
    }

    private static void appealOrder() {
        LIVELY.refused("p14 NONE side ahead of BAD", -1, x -> x.appeal(8, 2, 101));
        LIVELY.refused("p14 NONE side ahead of FALLEN", -1, x -> x.appeal(2, 2, 50));
        LIVELY.refused("p14 NONE side ahead of behind TERM", -1, x -> x.appeal(4, -1, 50));
        LIVELY.refused("p14 BAD ahead of FALLEN", -2, x -> x.appeal(2, 1, 101));
        LIVELY.refused("p14 BAD ahead of behind TERM", -2, x -> x.appeal(4, 1, -1));
        LIVELY.refused("p14 BAD ahead of the SIDE made one", -2, x -> x.appeal(6, 0, 101));
        LIVELY.refused("p14 STATE: behind TERM", -3, x -> x.appeal(4, 1, 50));
        LIVELY.refused("p14 STATE: FALLEN and behind TERM", -3, x -> x.appeal(3, 0, 50));
    }

    private static void appealFull() {
        FULL.refused("p14 FULL", -4, x -> x.appeal(5, 1, 50));
        FULL.refused("p14 NONE RULING ahead of FULL", -1, x -> x.appeal(50, 1, 50));
        FULL.refused("p14 NONE side ahead of FULL", -1, x -> x.appeal(5, 2, 50));
        FULL.refused("p14 BAD ahead of FULL", -2, x -> x.appeal(5, 1, 101));
        FULL.refused("p14 STATE FALLEN ahead of FULL", -3, x -> x.appeal(2, 1, 50));
        FULL.refused("p14 STATE behind TERM ahead of FULL", -3, x -> x.appeal(4, 0, 50));
        FULL.refused("p14 STATE the SIDE made one ahead of FULL", -3, x -> x.appeal(5, 0, 50));
    }

    /** A ruling of day 3, on a day so many days behind it. */
    private static FreeCity behind(int term, int days) {
        FreeCity x = new FreeCity();
        x.day(3);
        x.rule(0, 0, true);
        if (term != 30) {
            x.term(0, term);
        }
        for (int rest = days; rest > 0; rest -= Math.min(50, rest)) {
            x.day(Math.min(50, rest));
        }
        return x;
    }

    private static void terms() {
        CHECK.due("t3 30 at first: on the DAY itself", behind(30, 0).appeal(0, 0, 0), 1);
        CHECK.due("t3 30 at first: 30 DAYS behind it", behind(30, 30).appeal(0, 0, 0), 1);
        new Edges(CHECK, () -> behind(30, 31)).refused("t3 30 at first: 31 DAYS behind it", -3, x -> x.appeal(0, 0, 0));
        new Edges(CHECK, () -> behind(0, 1)).refused("t3 TERM 0, 1 DAY behind it", -3, x -> x.appeal(0, 1, 0));
    }

    private static void termOfEachLength() {
        for (int term : new int[] {0, 1, 2, 29, 31, 98, 99}) {
            CHECK.due("t3 within TERM " + term, behind(term, term).appeal(0, 1, 0), 1);
            CHECK.due("t3 behind TERM " + term, behind(term, term + 1).appeal(0, 1, 0), -3);
        }
        FreeCity x = behind(5, 6);
        CHECK.due("p14 behind TERM", x.appeal(0, 0, 1), -3);
        x.term(0, 6);
        CHECK.due("p14 within the TERM that is now", x.appeal(0, 0, 1), 1);
        x.term(0, 5);
        CHECK.due("p14 behind the TERM that is now", x.appeal(0, 1, 1), -3);
        x.rule(0, 0, true);
        CHECK.due("p14 by the DAY on which it came", x.appeal(2, 1, 1), 3);
    }

    private static void termBounds() {
        LIVELY.bounds("p15 TERM", 0, 99, -2, (x, n) -> x.term(0, n));
        LIVELY.bounds("p15 STEP", 1, 20, -2, (x, n) -> x.term(1, n));
        LIVELY.bounds("p15 term's what", 0, 1, -1, (x, n) -> x.term(n, 20));
        LIVELY.refused("p15 NONE ahead of BAD", -1, x -> x.term(2, 100));
        LIVELY.refused("p15 NONE ahead of BAD", -1, x -> x.term(-1, -1));
        LIVELY.refused("p15 STEP 0 is BAD, TERM 0 isn't", -2, x -> x.term(1, 0));
    }

    private static void termWhatItWas() {
        FreeCity x = new FreeCity();
        int term = 30;
        int step = 7;
        for (int n : new int[] {1, 20, 20, 12}) {
            CHECK.due("p15 what TERM was", x.term(0, n), term);
            CHECK.due("p15 what STEP was", x.term(1, n), step);
            term = n;
            step = n;
        }
        CHECK.due("p15 TERM 99", x.term(0, 99), 12);
        CHECK.due("p15 STEP is another", x.term(1, 1), 12);
        CHECK.due("p15 TERM 0", x.term(0, 0), 99);
        CHECK.due("p15 TERM 0 it was", x.term(0, 5), 0);
        CHECK.due("p15 STEP 1 it was", x.term(1, 5), 1);
    }

    private static void shares() {
        for (int share : new int[] {0, 1, 49, 50, 51, 99, 100}) {
            FreeCity x = ruled(1);
            x.appeal(0, 1, share);
            x.day(1);
            int due = share > 50 ? 1 : 0;
            CHECK.due("t3 heard by a SHARE of " + share, x.late(1, 0), 1);
            CHECK.due("t3 it overrules if more than 50: " + share, x.late(1, 2), due);
            CHECK.due("t3 FALLEN: " + share, x.fall(0, 0), due);
            CHECK.due("t3 STANDING: " + share, x.fall(0, 2), 1 - due);
        }
    }

    private static void steps() {
        for (int step : new int[] {1, 2, 7, 19, 20}) {
            FreeCity x = new FreeCity();
            x.term(1, step);
            x.day(1);
            x.rule(0, 0, true);
            x.appeal(0, 0, 50);
            if (step > 1) {
                x.day(step - 1);
            }
            CHECK.due("t3 TODAY is STEP, but that DAY has not gone by: " + step, x.late(1, 1), -5);
            x.day(1);
            CHECK.due("t3 heard on the DAY that is STEP: " + step, x.late(1, 1), step);
            x.rule(0, 0, true);
            x.appeal(2, 0, 50);
            x.day(step);
            CHECK.due("t3 heard on the next multiple of STEP: " + step, x.late(3, 1), 2 * step);
        }
    }

    private static void stepOnDayZero() {
        for (int step = 1; step <= 20; step++) {
            FreeCity x = ruled(1);
            x.term(1, step);
            x.appeal(0, 0, 50);
            CHECK.due("t3 not heard while the DAY is", x.late(1, 0), 0);
            x.day(50);
            CHECK.due("t3 DAY 0 is a multiple of STEP " + step, x.late(1, 1), 0);
        }
        FreeCity y = new FreeCity();
        y.day(49);
        y.rule(0, 0, true);
        y.appeal(0, 0, 99);
        y.day(1);
        CHECK.due("t3 made on a DAY of hearing: on that", y.late(1, 1), 49);
    }

    private static void oneOnEachDay() {
        FreeCity x = ruled(10);
        for (int i = 0; i < 10; i++) {
            CHECK.due("t3 ten APPEALS", x.appeal(i, i % 2, 0), 10 + i);
        }
        x.day(50);
        for (int i = 0; i < 10; i++) {
            CHECK.due("t3 THE COUNCIL hears one on each DAY: " + i, x.late(10 + i, 1), i < 8 ? 7 * i : -5);
        }
        x.day(6);
        CHECK.due("t3 not yet", x.late(18, 1), -5);
        x.day(1);
        CHECK.due("t3 on DAY 56", x.late(18, 1), 56);
        x.day(50);
        CHECK.due("t3 on DAY 63", x.late(19, 1), 63);
        CHECK.due("t3 TODAY is 107", x.count(2), 107);
        x.rule(0, 0, true);
        x.appeal(20, 0, 0);
        x.day(5);
        CHECK.due("t3 hearings that had none are not made up for", x.late(21, 1), -5);
        x.day(1);
        CHECK.due("t3 on DAY 112", x.late(21, 1), 112);
    }

    private static void leastDayThenNumber() {
        FreeCity x = ruled(3);
        x.day(1);
        x.appeal(2, 1, 0); // 3
        x.appeal(0, 0, 0); // 4
        x.appeal(2, 0, 0); // 5
        x.day(1);
        x.appeal(0, 1, 0); // 6
        x.appeal(1, 0, 0); // 7
        x.day(50);
        int[] due = {7, 14, 21, 28, 35};
        for (int i = 0; i < 5; i++) {
            CHECK.due("t3 that of the least DAY, then the least number: " + (3 + i), x.late(3 + i, 1), due[i]);
        }
    }

    private static void asTheDayGoesBy() {
        FreeCity x = ruled(2);
        x.appeal(0, 0, 100);
        CHECK.due("t3 TODAY it still isn't heard", x.fall(0, 1), 1);
        CHECK.due("t3 it isn't FALLEN", x.fall(0, 0), 0);
        CHECK.due("t3 TODAY is 1 more behind that", x.day(1), 1);
        CHECK.due("t3 FALLEN", x.fall(0, 0), 1);
        CHECK.due("t3 HELD UP no more", x.fall(0, 1), 0);
        x.appeal(1, 0, 100);
        CHECK.due("p4 six DAYS", x.day(6), 7);
        CHECK.due("t3 DAY 7 has not gone by", x.late(3, 0), 0);
        CHECK.due("p4 refused DAYS bring no hearing", x.day(51), -2);
        CHECK.due("t3 DAY 7 has not gone by", x.late(3, 0), 0);
        x.day(1);
        CHECK.due("t3 DAY 7 has gone by", x.late(3, 1), 7);
    }

    private static void otherSteps() {
        FreeCity x = ruled(4);
        x.day(1);
        for (int i = 0; i < 4; i++) {
            x.appeal(i, 0, 0);
        }
        x.day(7);
        CHECK.due("t3 STEP 7", x.late(4, 1), 7);
        x.term(1, 20);
        x.day(12);
        CHECK.due("t3 STEP 20: no DAY 14", x.late(5, 1), -5);
        x.day(1);
        CHECK.due("t3 STEP 20", x.late(5, 1), 20);
        x.term(1, 1);
        x.day(2);
        CHECK.due("t3 STEP 1", x.late(6, 1), 21);
        CHECK.due("t3 STEP 1", x.late(7, 1), 22);
    }

    private static void fallenMeanwhile() {
        FreeCity x = ruled(2);
        x.lean(1, 0);
        x.appeal(0, 0, 80);
        x.appeal(1, 0, 50);
        x.appeal(1, 1, 51);
        x.day(1);
        CHECK.due("t3 FALLEN ahead of its APPEAL's hearing", x.fall(1, 0), 1);
        CHECK.due("t3 HELD UP all the same", x.fall(1, 1), 1);
        CHECK.due("t3 not STANDING", x.fall(1, 2), 0);
        x.day(7);
        CHECK.due("p17 heard though it had FALLEN", x.late(3, 1), 7);
        CHECK.due("p17 whether it overruled: 50", x.late(3, 2), 0);
        x.day(7);
        CHECK.due("p17 whether it overruled: 51", x.late(4, 2), 1);
    }

    private static void nothingToHear() {
        FreeCity x = ruled(49);
        x.appeal(48, 1, 51);
        CHECK.due("t3 one of fifty RIGHTS", x.late(49, 0), 0);
        CHECK.due("p4 the first DAY", x.day(1), 1);
        CHECK.due("t3 the fiftieth is heard", x.late(49, 2), 1);
        CHECK.due("p4 no APPEAL is left", x.day(50), 51);
        CHECK.due("p17 heard once", x.late(49, 1), 0);
        CHECK.due("t3 none but that one is FALLEN", x.fall(47, 2) + x.fall(48, 2), 1);
        FreeCity y = ruled(50);
        CHECK.due("p4 fifty RULINGS, no APPEAL", y.day(50), 50);
        CHECK.due("p4 no RIGHTS at all", new FreeCity().day(50), 50);
    }

    private static void lateBounds() {
        for (int appeal : new int[] {5, 7}) {
            LIVELY.within("p17 late's what, of " + appeal, 0, appeal == 5 ? 2 : 0, (x, n) -> x.late(appeal, n));
            LIVELY.beyond("p17 late's what, of " + appeal, 0, 2, -1, (x, n) -> x.late(appeal, n));
        }
        for (int other : new int[] {-1, 0, 1, 2, 4, 6, 8, 9, 50, Integer.MIN_VALUE, Integer.MAX_VALUE}) {
            for (int what = 0; what < 3; what++) {
                int told = what;
                LIVELY.refused("p17 no APPEAL: " + other, -1, x -> x.late(other, told));
            }
        }
    }

    private static void lateAnswers() {
        FreeCity x = Cities.lively();
        int[] heard = {1, 0, 1};
        int[] waiting = {0, -5, 0};
        for (int what = 0; what < 3; what++) {
            CHECK.due("p17 heard on DAY 0: " + what, x.late(5, what), heard[what]);
            CHECK.due("p17 not yet: " + what, x.late(7, what), waiting[what]);
        }
        x.day(3);
        CHECK.due("p17 heard on DAY 42", x.late(7, 1), 42);
        CHECK.due("p17 it overruled", x.late(7, 2), 1);
    }
}
