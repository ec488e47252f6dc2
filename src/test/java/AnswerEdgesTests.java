/** The edges of Terms 7 and of promises 42 to 46: questions, wanted acts, answers, a text tried beside. */
final class AnswerEdgesTests {
    private static final Check CHECK = new Check("AnswerEdgesTests");
    private static final Edges NEW = new Edges(CHECK, FreeCity::new);
    private static final Edges LIVELY = new Edges(CHECK, Cities::lively);
    private static final Edges FULL = new Edges(CHECK, Cities::crammed);

    public static void main(String[] args) {
        askBounds();
        askBits();
        askOrder();
        askFull();
        wantBounds();
        wantFull();
        judgeBounds();
        fallsByBits();
        fallsOnce();
        fallsOfStandingAlone();
        fallsThroughOthers();
        metWithoutQuestion();
        metByAnswers();
        metByTheGreatest();
        metAheadOfRulings();
        bestOfNothing();
        bestByNone();
        bestFewest();
        bestLeast();
        bestOnToday();
        bestOfThoseStanding();
        bestOfSix();
        triedBounds();
        triedFault();
        triedBesideFifteen();
        triedFromToday();
        triedCounts();
        CHECK.end();
    }

    private static FreeCity ruled(int rulings) {
        FreeCity x = new FreeCity();
        for (int i = 0; i < rulings; i++) {
            x.rule(i % 30, 4, true);
        }
        return x;
    }

    private static void askBounds() {
        LIVELY.bounds("p42 ask's spot", 0, 29, -1, (x, n) -> x.ask(n, 0, 0, 0));
        LIVELY.bounds("p42 ask's matter", 0, 4, -1, (x, n) -> x.ask(0, n, 0, 0));
        NEW.bounds("p42 ask's spot", 0, 29, -1, (x, n) -> x.ask(n, 4, 0, 0));
    }

    private static void askBits() {
        // Rulings of the lively city: 2, 3, 4, 6 and 8.
        long rulings = 1L << 2 | 1L << 3 | 1L << 4 | 1L << 6 | 1L << 8;
        CHECK.due("p42 all RULINGS, FALLEN or HELD UP or not", Cities.lively().ask(0, 0, rulings, rulings), 1);
        CHECK.due("p42 no bits", Cities.lively().ask(0, 0, 0, 0), 1);
        for (int bit = 0; bit < 64; bit++) {
            long told = 1L << bit;
            if ((rulings & told) != 0) {
                CHECK.due("p42 a RULING: " + bit, Cities.lively().ask(0, 0, told, 0), 1);
                CHECK.due("p42 a RULING: " + bit, Cities.lively().ask(0, 0, 0, told), 1);
            } else {
                LIVELY.refused("p42 bits that are no RULINGS, for LET: " + bit, -2, x -> x.ask(0, 0, told, 0));
                LIVELY.refused("p42 bits that are no RULINGS, for not: " + bit, -2, x -> x.ask(0, 0, 0, told));
                LIVELY.refused("p42 one of them is none: " + bit, -2, x -> x.ask(0, 0, rulings | told, rulings));
            }
        }
        LIVELY.refused("p42 all bits", -2, x -> x.ask(0, 0, -1L, 0));
        LIVELY.refused("p42 all bits", -2, x -> x.ask(0, 0, 0, Long.MAX_VALUE));
        NEW.refused("p42 no RULINGS yet", -2, x -> x.ask(0, 0, 1, 0));
        FreeCity x = ruled(50);
        CHECK.due("p42 the last RULING of fifty", x.ask(0, 0, (1L << 50) - 1, 1L << 49), 0);
        CHECK.due("p42 one beyond fifty", x.ask(0, 0, 1L << 50, 0), -2);
    }

    private static void askOrder() {
        LIVELY.refused("p42 NONE spot ahead of BAD", -1, x -> x.ask(30, 0, 1, 0));
        LIVELY.refused("p42 NONE matter ahead of BAD", -1, x -> x.ask(0, 5, 0, 1));
        LIVELY.refused("p42 both NONE", -1, x -> x.ask(-1, -1, 0, 0));
    }

    private static void askFull() {
        FULL.refused("p42 FULL", -4, x -> x.ask(0, 0, 0, 0));
        FULL.refused("p42 FULL, with RULINGS", -4, x -> x.ask(0, 0, 4, 4));
        FULL.refused("p42 NONE spot ahead of FULL", -1, x -> x.ask(30, 0, 0, 0));
        FULL.refused("p42 NONE matter ahead of FULL", -1, x -> x.ask(0, 5, 0, 0));
        FULL.refused("p42 BAD ahead of FULL", -2, x -> x.ask(0, 0, 1, 0));
        FreeCity x = new FreeCity();
        for (int question = 0; question < 6; question++) {
            CHECK.due("t7 a refused one has no number", x.ask(0, 0, 1, 0), -2);
            CHECK.due("t7 QUESTIONS 0 .. 5, as they come", x.ask(0, 0, 0, 0), question);
        }
        CHECK.due("t7 six at most", x.ask(1, 1, 0, 0), -4);
    }

    private static void wantBounds() {
        LIVELY.bounds("p43 want's act", 0, 10799, -2, (x, n) -> x.want(n));
        LIVELY.refused("p43 STATE: it is one", -3, x -> x.want(Cities.ASKED));
        LIVELY.refused("p43 STATE: it is one, the last", -3, x -> x.want(Cities.WANTED));
        CHECK.due("p43 how many", Cities.lively().want(Cities.ASKED + 1), 3);
    }

    private static void wantFull() {
        FULL.refused("p43 FULL", -4, x -> x.want(10));
        FULL.refused("p43 BAD ahead of FULL", -2, x -> x.want(10800));
        FULL.refused("p43 STATE ahead of FULL, the first", -3, x -> x.want(0));
        FULL.refused("p43 STATE ahead of FULL, the last", -3, x -> x.want(9));
        FreeCity x = new FreeCity();
        for (int i = 1; i <= 10; i++) {
            CHECK.due("p43 how many", x.want(1000 - i), i);
        }
        CHECK.due("t7 WANTED ACTS, 10 at most", x.want(0), -4);
    }

    private static void judgeBounds() {
        LIVELY.bounds("p44 judge's answers to one", 0, 1, -2, (x, n) -> x.judge(n, 0));
        LIVELY.bounds("p44 judge's answers to one", 0, 1, -2, (x, n) -> x.judge(n, 1));
        NEW.bounds("p44 judge's answers to none", 0, 0, -2, (x, n) -> x.judge(n, 0));
        FULL.bounds("p44 judge's answers to six", 0, 63, -2, (x, n) -> x.judge(n, 1));
        LIVELY.bounds("p44 judge's what", 0, 1, -1, (x, n) -> x.judge(0, n));
        LIVELY.refused("p44 NONE ahead of BAD", -1, x -> x.judge(2, 2));
        LIVELY.refused("p44 NONE ahead of BAD", -1, x -> x.judge(-1, -1));
    }

    private static void fallsByBits() {
        FreeCity x = ruled(50);
        for (int i = 0; i < 6; i++) {
            x.ask(0, 0, 1L << i, 1L << 49 - i);
        }
        for (int answers = 0; answers < 64; answers++) {
            CHECK.due("t7 one of each QUESTION by " + answers, x.judge(answers, 1), 6);
        }
        FreeCity y = ruled(50);
        y.ask(0, 0, (1L << 50) - 1, 0);
        y.ask(0, 0, 0, 1L << 49);
        int[] due = {1, 50, 0, 50};
        for (int answers = 0; answers < 4; answers++) {
            CHECK.due("t7 FALLS by " + answers, y.judge(answers, 1), due[answers]);
        }
    }

    private static void fallsOnce() {
        FreeCity x = ruled(4);
        x.lean(1, 0);
        x.ask(0, 0, 1, 3);
        x.ask(1, 0, 3, 1);
        x.ask(2, 0, 2, 8);
        int[] due = {3, 3, 3, 3, 2, 2, 2, 2};
        for (int answers = 0; answers < 8; answers++) {
            CHECK.due("t7 a RULING named twice falls once: " + answers, x.judge(answers, 1), due[answers]);
        }
        CHECK.due("t7 nothing falls by being judged", x.fall(0, 2), 1);
    }

    private static void fallsOfStandingAlone() {
        FreeCity x = ruled(4);
        x.lean(1, 0);
        x.lean(3, 1);
        x.ask(0, 0, 15, 4);
        CHECK.due("t7 all four stand", x.judge(1, 1), 4);
        x.appeal(1, 0, 51);
        CHECK.due("t7 HELD UP ones don't count", x.judge(1, 1), 2);
        x.day(1);
        CHECK.due("t7 FALLEN ones don't count", x.judge(1, 1), 2);
        CHECK.due("t7 the other answer", x.judge(0, 1), 1);
        x.appeal(2, 0, 50);
        CHECK.due("t7 HELD UP ones don't count", x.judge(0, 1), 0);
        x.day(7);
        CHECK.due("t7 STANDING now", x.judge(0, 1), 1);
    }

    private static void fallsThroughOthers() {
        FreeCity x = ruled(50);
        for (int i = 1; i < 50; i++) {
            x.lean(i, i - 1);
        }
        x.ask(0, 0, 1, 1L << 49);
        x.ask(0, 0, 1L << 25, 0);
        int[] due = {1, 50, 25, 50};
        for (int answers = 0; answers < 4; answers++) {
            CHECK.due("t7 or LEAN on such, through others: " + answers, x.judge(answers, 1), due[answers]);
        }
    }

    private static void metWithoutQuestion() {
        FreeCity x = new FreeCity();
        CHECK.due("p44 none WANTED", x.judge(0, 0), 0);
        Check.textOf(x, 0, 2, "let m=0");
        Check.textOf(x, 1, 2, "let m=0;bar p=7");
        x.want(Check.actOf(0, 6, 0, 0));
        x.want(Check.actOf(2, 7, 0, 23));
        x.day(1);
        CHECK.due("t7 LET by THE CITY on TODAY, a DAY ahead", x.judge(0, 0), 0);
        x.day(1);
        CHECK.due("t7 LET by THE CITY on TODAY", x.judge(0, 0), 1);
        x.rule(7, 0, true);
        CHECK.due("t7 LET by THE CITY, by a RULING", x.judge(0, 0), 2);
        x.rule(6, 0, false);
        CHECK.due("t7 barred by a RULING", x.judge(0, 0), 1);
        x.ask(6, 1, 0, 0);
        x.ask(5, 0, 0, 0);
        CHECK.due("t7 a QUESTION about another MATTER or SPOT", x.judge(3, 0), 1);
    }

    private static void metByAnswers() {
        FreeCity x = new FreeCity();
        for (int i = 0; i < 6; i++) {
            x.ask(i * 5, i % 5, 0, 0);
        }
        for (int i = 0; i < 6; i++) {
            for (int side = 0; side < (i < 4 ? 2 : 1); side++) {
                x.want(Check.actOf(side, i * 5, i % 5, side * 23));
            }
        }
        for (int answers = 0; answers < 64; answers++) {
            int due = 2 * Integer.bitCount(answers & 15) + Integer.bitCount(answers & 48);
            CHECK.due("t7 MET by answers " + answers, x.judge(answers, 0), due);
        }
    }

    private static void metByTheGreatest() {
        FreeCity x = new FreeCity();
        x.want(Check.actOf(1, 9, 3, 4));
        for (int i = 0; i < 6; i++) {
            x.ask(9, 3, 0, 0);
            CHECK.due("t7 of several the greatest: only " + i + " let", x.judge(1 << i, 0), 1);
            CHECK.due("t7 of several the greatest: only " + i + " not", x.judge((1 << i) - 1, 0), 0);
        }
    }

    private static void metAheadOfRulings() {
        FreeCity x = new FreeCity();
        x.rule(9, 3, false);
        x.rule(10, 3, true);
        x.want(Check.actOf(0, 9, 3, 0));
        x.want(Check.actOf(0, 10, 3, 0));
        CHECK.due("t7 by RULINGS", x.judge(0, 0), 1);
        x.ask(9, 3, 0, 0);
        x.ask(10, 3, 0, 0);
        int[] due = {0, 1, 1, 2};
        for (int answers = 0; answers < 4; answers++) {
            CHECK.due("t7 answers count ahead of RULINGS: " + answers, x.judge(answers, 0), due[answers]);
        }
        FreeCity y = new FreeCity();
        for (int tongue = 0; tongue < 3; tongue++) {
            Check.textOf(y, tongue, 0, "let h<24");
        }
        y.want(0);
        y.ask(0, 0, 0, 0);
        CHECK.due("t7 answers count ahead of TEXTS", y.judge(0, 0), 0);
        CHECK.due("t7 answers count ahead of TEXTS", y.judge(1, 0), 1);
    }

    private static void bestOfNothing() {
        CHECK.due("p45 nothing asked, nothing WANTED", new FreeCity().best(), 0);
        FreeCity x = new FreeCity();
        for (int i = 0; i < 6; i++) {
            x.ask(i, 0, 0, 0);
        }
        CHECK.due("p45 nothing WANTED: of several the least", x.best(), 0);
    }

    private static void bestByNone() {
        FreeCity x = new FreeCity();
        x.want(0);
        CHECK.due("p45 -5: no QUESTION, not LET", x.best(), -5);
        x.ask(0, 1, 0, 0);
        CHECK.due("p45 -5: a QUESTION about another MATTER", x.best(), -5);
        x.ask(0, 0, 0, 0);
        CHECK.due("p45 the QUESTION about it", x.best(), 2);
        x.want(10799);
        CHECK.due("p45 -5: one of two is not MET", x.best(), -5);
        x.rule(29, 4, true);
        CHECK.due("p45 LET by a RULING", x.best(), 2);
        x.ask(29, 4, 0, 0);
        CHECK.due("p45 it must be answered so, too", x.best(), 6);
    }

    private static void bestFewest() {
        FreeCity x = ruled(10);
        x.ask(20, 0, 7, 24);
        CHECK.due("p45 two fall, not three", x.best(), 0);
        x.lean(9, 4);
        CHECK.due("p45 three fall by each: the least", x.best(), 0);
        x.lean(8, 9);
        CHECK.due("p45 three fall, not four", x.best(), 1);
        x.want(Check.actOf(0, 20, 0, 0));
        x.lean(7, 0);
        x.lean(6, 0);
        CHECK.due("p45 MET goes ahead of fewest FALLS", x.best(), 1);
    }

    private static void bestLeast() {
        FreeCity x = ruled(6);
        x.ask(0, 0, 1, 2);
        x.ask(1, 0, 2, 1);
        CHECK.due("p45 by 1 and by 2 one falls, by 0 and 3 two", x.best(), 1);
        x.ask(2, 0, 0, 1 << 5);
        CHECK.due("p45 5 ahead of 6", x.best(), 5);
        x.ask(3, 0, 1 << 4, 0);
        CHECK.due("p45 still", x.best(), 5);
    }

    private static void bestOnToday() {
        FreeCity x = new FreeCity();
        Check.textOf(x, 0, 1, "let h<24");
        Check.textOf(x, 2, 1, "let h<24");
        Check.textOf(x, 2, 2, "bar h<24");
        x.want(7);
        CHECK.due("p45 LET on the DAY behind TODAY", x.best(), -5);
        x.day(1);
        CHECK.due("p45 LET on TODAY", x.best(), 0);
        x.day(1);
        CHECK.due("p45 LET on the DAY ahead of TODAY", x.best(), -5);
    }

    private static void bestOfThoseStanding() {
        FreeCity x = ruled(6);
        x.ask(0, 0, 1, 6);
        x.ask(1, 0, 8, 48);
        CHECK.due("p45 one falls by each LET, two by each not", x.best(), 3);
        x.appeal(1, 0, 0);
        x.appeal(2, 0, 0);
        x.appeal(4, 0, 51);
        x.appeal(5, 0, 51);
        CHECK.due("p45 HELD UP ones don't count", x.best(), 0);
        x.day(8);
        CHECK.due("p45 heard, and they stand", x.best(), 1);
        x.day(14);
        CHECK.due("p45 FALLEN ones don't count", x.best(), 1);
        CHECK.due("p44 nor there", x.judge(1, 1), 1);
    }

    private static void bestOfSix() {
        FreeCity x = ruled(12);
        for (int i = 0; i < 6; i++) {
            x.ask(i, 0, 0, 1L << i);
        }
        CHECK.due("p45 all LET: none falls", x.best(), 63);
        x.lean(11, 10);
        FreeCity y = ruled(6);
        for (int i = 0; i < 6; i++) {
            y.ask(i, 0, 1L << i, 0);
            y.want(Check.actOf(0, i, 0, 0));
        }
        CHECK.due("p45 all LET: all fall", y.best(), 63);
        CHECK.due("p44 all six fall", y.judge(63, 1), 6);
    }

    private static void triedBounds() {
        LIVELY.bounds("p46 tried's tongue", 0, 2, -1, (x, n) -> x.tried(n, 0));
        LIVELY.bounds("p46 tried's what", 0, 2, -1, (x, n) -> x.tried(0, n));
        LIVELY.refused("p46 both NONE", -1, x -> x.tried(3, 3));
        FULL.refused("p46 NONE: THE TAPE stays, though it is no TEXT", -1, x -> x.tried(3, 0));
        FULL.refused("p46 NONE: THE TAPE stays, though it is no TEXT", -1, x -> x.tried(0, 3));
        NEW.refused("p46 NONE of no bytes", -1, x -> x.tried(-1, 0));
        for (int what = 0; what < 3; what++) {
            int told = what;
            NEW.refused("p46 no bytes end too early", -10, x -> x.tried(0, told));
        }
    }

    /** What is tried leaves no trace but the empty tape, with a fault and without. */
    private static void triedFault() {
        for (int what = 0; what < 3; what++) {
            for (int tongue = 0; tongue < 3; tongue++) {
                FreeCity faulty = Cities.lively();
                Check.feedAll(faulty, ";");
                CHECK.due("p46 FAULT", faulty.tried(tongue, what), -18);
                CHECK.due("p46 THE TAPE is empty then", faulty.count(10), 0);
                FreeCity tried = Cities.lively();
                CHECK.so("p46 no FAULT", tried.tried(tongue, what) >= 0);
                CHECK.due("p46 THE TAPE is empty then", tried.count(10), 0);
                String unlike = Portrait.unlike(Portrait.of(faulty), Portrait.of(tried));
                CHECK.so("p46 no trace of it is left, but " + unlike, unlike.isEmpty());
            }
        }
        FreeCity x = Cities.crammed();
        CHECK.due("p46 FAULT of the full TAPE", x.tried(1, 1), -11);
        CHECK.due("p46 THE TAPE is empty then", x.count(10), 0);
    }

    private static void triedBesideFifteen() {
        FreeCity x = new FreeCity();
        for (int i = 0; i < 15; i++) {
            Check.textOf(x, i % 3, 0, "let h<24");
        }
        Check.feedAll(x, "bar h<24");
        CHECK.due("p46 beside fifteen TEXTS", x.tried(0, 0), 10800);
        CHECK.due("p49 fifteen TEXTS", x.count(0), 15);
        Check.feedAll(x, "bar h<24");
        CHECK.due("p46 LET by the two other TONGUES", x.tried(2, 1), 10800);
    }

    private static void triedFromToday() {
        FreeCity x = new FreeCity();
        x.day(5);
        Check.textOf(x, 0, 5, "let h<24");
        Check.textOf(x, 1, 6, "let h<24");
        Check.textOf(x, 2, 4, "let s=0");
        Check.feedAll(x, "let s=0");
        CHECK.due("p46 ahead of one of the same DAY; the other's is not in force yet", x.tried(0, 0), 3600);
        Check.feedAll(x, "let s=0");
        CHECK.due("p46 instead of one of a DAY ahead", x.tried(2, 1), 3600);
        Check.feedAll(x, "let s=1");
        CHECK.due("p46 LET by this and the first, or by the first and the third", x.tried(1, 1), 7200);
        Check.feedAll(x, "let h<24");
        CHECK.due("p46 LET by this and the first", x.tried(1, 1), 10800);
        x.day(1);
        Check.feedAll(x, "let s=2");
        CHECK.due("p46 a DAY later", x.tried(2, 0), 0);
        CHECK.due("p9 what was tried doesn't rule", x.unlike(0, 2, 6, 0), 7200);
    }

    private static void triedCounts() {
        FreeCity x = new FreeCity();
        Check.textOf(x, 0, 0, "let h<24");
        x.rule(0, 0, false);
        x.rule(1, 0, true);
        x.want(Check.actOf(0, 0, 0, 0));
        x.want(Check.actOf(0, 1, 0, 0));
        x.want(Check.actOf(0, 2, 0, 0));
        x.want(Check.actOf(2, 29, 4, 23));
        Check.feedAll(x, "let p=0|p=2");
        CHECK.due("p46 LET by THE CITY, RULINGS ahead", x.tried(1, 1), 2 * 360 - 72 + 72);
        Check.feedAll(x, "let p=0|p=2");
        CHECK.due("p46 WANTED that are LET", x.tried(1, 2), 2);
        Check.feedAll(x, "let p=0|p=2");
        CHECK.due("p46 UNLIKE by TONGUES 0 and 1, whatever RULINGS say", x.tried(1, 0), 10800 - 720);
        Check.feedAll(x, "let p=0|p=2");
        CHECK.due("p46 UNLIKE by TONGUES 0 and 1, not by 2", x.tried(2, 0), 10800);
        x.ask(29, 4, 0, 0);
        Check.feedAll(x, "let p=29&h>22");
        CHECK.due("p46 WANTED that are LET, whatever is asked", x.tried(2, 2), 2);
        Check.feedAll(x, "bar h<24");
        CHECK.due("p46 WANTED that are LET by a RULING", x.tried(0, 2), 1);
        Check.feedAll(x, "bar h<24");
        CHECK.due("p46 LET by a RULING alone", x.tried(0, 1), 72);
    }
}
