/** Promises 42 to 46: questions, wanted acts, another text tried beside. */
final class AnswerTests {
    private static final Check CHECK = new Check("AnswerTests");

    public static void main(String[] args) {
        ask();
        want();
        met();
        falls();
        fallsOfStanding();
        best();
        bestOfSeveral();
        tried();
        triedBeside();
        CHECK.end();
    }

    private static FreeCity ruled(int rulings) {
        FreeCity x = new FreeCity();
        for (int i = 0; i < rulings; i++) {
            x.rule(i % 30, 4, true);
        }
        return x;
    }

    private static void ask() {
        FreeCity x = ruled(2);
        x.use(1, 0, 0, 0);
        x.appeal(1, 0, 99);
        CHECK.due("p42 spot ahead of bits", x.ask(30, 0, 4, 0), -1);
        CHECK.due("p42 spot", x.ask(-1, 0, 0, 0), -1);
        CHECK.due("p42 matter", x.ask(0, 5, 0, 0), -1);
        CHECK.due("p42 a use", x.ask(0, 0, 4, 0), -2);
        CHECK.due("p42 an appeal", x.ask(0, 0, 0, 8), -2);
        CHECK.due("p42 no right", x.ask(0, 0, 16, 0), -2);
        CHECK.due("p42 the highest bit", x.ask(0, 0, 0, Long.MIN_VALUE), -2);
        CHECK.due("p42 a bit beyond all rights", x.ask(0, 0, 1L << 50, 0), -2);
        x.day(1);
        CHECK.due("p42 a fallen one is a ruling", x.ask(0, 0, 2, 3), 0);
        for (int i = 1; i < 6; i++) {
            CHECK.due("p42 question", x.ask(0, 0, 1, 1), i);
        }
        CHECK.due("p42 full", x.ask(0, 0, 0, 0), -4);
        CHECK.due("p42 bad ahead of full", x.ask(0, 0, 4, 0), -2);
        CHECK.due("p42 six", x.count(8), 6);
    }

    private static void want() {
        FreeCity x = new FreeCity();
        CHECK.due("p43 act", x.want(-1), -2);
        CHECK.due("p43 act", x.want(10800), -2);
        for (int i = 1; i <= 10; i++) {
            CHECK.due("p43 want", x.want(10800 - i), i);
            CHECK.due("p43 it is one", x.want(10800 - i), -3);
        }
        CHECK.due("p43 full", x.want(0), -4);
        CHECK.due("p43 state ahead of full", x.want(10790), -3);
        CHECK.due("p43 ten", x.count(9), 10);
    }

    private static void met() {
        FreeCity x = new FreeCity();
        CHECK.due("p44 none wanted", x.judge(0, 0), 0);
        CHECK.due("p44 no such question", x.judge(1, 0), -2);
        CHECK.due("p44 what ahead of bits", x.judge(1, 2), -1);
        CHECK.due("p44 what", x.judge(0, -1), -1);
        CHECK.due("p44 bits", x.judge(-1, 1), -2);
        Check.textOf(x, 0, 3, "let m=0");
        Check.textOf(x, 1, 3, "let m=0");
        x.want(Check.actOf(1, 6, 0, 5));
        x.want(Check.actOf(1, 7, 0, 5));
        x.want(Check.actOf(1, 7, 1, 5));
        CHECK.due("p44 not let on today", x.judge(0, 0), 0);
        x.day(3);
        CHECK.due("p44 let on today", x.judge(0, 0), 2);
        x.rule(6, 0, false);
        CHECK.due("p44 a ruling says not", x.judge(0, 0), 1);
        x.ask(6, 0, 0, 0);
        CHECK.due("p44 an answer ahead of it", x.judge(1, 0), 2);
        CHECK.due("p44 the other answer", x.judge(0, 0), 1);
        x.rule(7, 1, true);
        CHECK.due("p44 a ruling lets", x.judge(1, 0), 3);
        x.ask(7, 1, 0, 0);
        CHECK.due("p44 an answer bars ahead of it", x.judge(1, 0), 2);
        x.ask(6, 0, 0, 0);
        CHECK.due("p44 the greatest question counts", x.judge(1, 0), 1);
        CHECK.due("p44 the greatest question counts", x.judge(4, 0), 2);
        CHECK.due("p44 all", x.judge(6, 0), 3);
        CHECK.due("p44 bits", x.judge(8, 0), -2);
        x.ask(20, 0, 0, 0);
        CHECK.due("p44 a question about no wanted act", x.judge(14, 0), 3);
    }

    private static void falls() {
        FreeCity x = ruled(6);
        CHECK.due("p44 no questions, no falls", x.judge(0, 1), 0);
        x.lean(1, 0);
        x.lean(2, 1);
        x.lean(4, 3);
        x.ask(20, 0, 1, 8);
        x.ask(21, 0, 0, 1 << 5 | 1 << 2);
        CHECK.due("p44 not, not: 3 4, 5 2", x.judge(0, 1), 4);
        CHECK.due("p44 let, not: 0 1 2, 5 and 2", x.judge(1, 1), 4);
        CHECK.due("p44 not, let: 3 4", x.judge(2, 1), 2);
        CHECK.due("p44 let, let: 0 1 2", x.judge(3, 1), 3);
        CHECK.due("p44 nothing is changed by it", x.fall(0, 2), 1);
    }

    private static void fallsOfStanding() {
        FreeCity x = ruled(5);
        x.lean(1, 0);
        x.lean(2, 0);
        x.lean(3, 2);
        x.ask(20, 0, 1, 1 << 4);
        CHECK.due("p44 all stand", x.judge(1, 1), 4);
        x.appeal(2, 0, 51);
        CHECK.due("p44 2 and 3 are held up", x.judge(1, 1), 2);
        x.day(1);
        CHECK.due("p44 2 and 3 are fallen", x.judge(1, 1), 2);
        x.appeal(0, 0, 0);
        CHECK.due("p44 none stands that is named", x.judge(1, 1), 0);
        CHECK.due("p44 the other answer", x.judge(0, 1), 1);
    }

    private static void best() {
        FreeCity x = ruled(4);
        CHECK.due("p45 nothing asked or wanted", x.best(), 0);
        x.want(Check.actOf(0, 9, 0, 0));
        CHECK.due("p45 not met", x.best(), -5);
        x.rule(9, 0, true);
        CHECK.due("p45 met", x.best(), 0);
        x.ask(9, 0, 7, 0);
        CHECK.due("p45 it must be let, whatever falls", x.best(), 1);
        x.ask(10, 0, 8, 3);
        CHECK.due("p45 the second costs 1, or what falls anyway", x.best(), 1);
        x.ask(11, 0, 0, 8);
        CHECK.due("p45 the third answered let", x.best(), 5);
        x.want(Check.actOf(0, 10, 0, 23));
        CHECK.due("p45 the second let", x.best(), 3);
        x.want(Check.actOf(0, 12, 0, 23));
        CHECK.due("p45 by none", x.best(), -5);
    }

    private static void bestOfSeveral() {
        FreeCity x = ruled(4);
        x.ask(0, 0, 1, 2);
        x.ask(1, 0, 4, 8);
        CHECK.due("p45 of like ones the least", x.best(), 0);
        x.lean(2, 3);
        CHECK.due("p45 fewest: not, let", x.best(), 2);
        x.lean(3, 2);
        CHECK.due("p45 as many by each", x.best(), 0);
        x.lean(0, 2);
        x.lean(1, 3);
        CHECK.due("p45 all fall anyway", x.best(), 0);
        x.ask(0, 0, 0, 0);
        x.want(Check.actOf(2, 0, 0, 0));
        CHECK.due("p45 the greatest question about it", x.best(), 4);
    }

    private static void tried() {
        FreeCity x = new FreeCity();
        CHECK.due("p46 an empty tape", x.tried(0, 0), -10);
        Check.feedAll(x, "let m=1");
        CHECK.due("p46 tongue", x.tried(3, 0), -1);
        CHECK.due("p46 tongue", x.tried(-1, 0), -1);
        CHECK.due("p46 what", x.tried(0, 3), -1);
        CHECK.due("p46 what", x.tried(0, -1), -1);
        CHECK.due("p46 the tape stays", x.count(10), 7);
        CHECK.due("p46 unlike", x.tried(0, 0), 10800 / 5);
        CHECK.due("p46 the tape is empty", x.count(10), 0);
        CHECK.due("p46 no text more", x.count(0), 0);
        CHECK.due("p46 as it was", x.unlike(0, 1, 0, 0), 0);
        Check.feedAll(x, "let m=");
        CHECK.due("p46 fault", x.tried(2, 1), -16);
        CHECK.due("p46 the tape is empty then, too", x.count(10), 0);
        Check.feedAll(x, "let m=1");
        CHECK.due("p46 the third tongue", x.tried(2, 0), 0);
    }

    private static void triedBeside() {
        FreeCity x = new FreeCity();
        Check.textOf(x, 1, 0, "let h<3;bar h>1");
        Check.textOf(x, 0, 5, "let h<24");
        x.want(Check.actOf(0, 8, 2, 0));
        x.want(Check.actOf(0, 8, 2, 1));
        x.want(Check.actOf(0, 8, 2, 2));
        Check.feedAll(x, "let h>0");
        CHECK.due("p46 let by two", x.tried(2, 1), 450);
        Check.feedAll(x, "let h>0");
        CHECK.due("p46 wanted", x.tried(2, 2), 1);
        x.rule(8, 2, true);
        Check.feedAll(x, "let h>0");
        CHECK.due("p46 with a ruling", x.tried(2, 1), 450 - 3 + 72);
        Check.feedAll(x, "let h>0");
        CHECK.due("p46 wanted with a ruling", x.tried(2, 2), 3);
        Check.feedAll(x, "let h>21");
        CHECK.due("p46 unlike", x.tried(0, 0), 450 * 4);
        x.day(5);
        Check.feedAll(x, "bar s=0");
        CHECK.due("p46 it rules ahead of one of the same day", x.tried(0, 0), 450 * 2);
        CHECK.due("p46 that one rules still", x.unlike(0, 1, 5, 0), 450 * 22);
        while (x.count(0) < 15) {
            Check.textOf(x, 2, 999, "bar s=0");
        }
        Check.feedAll(x, "let h<1");
        CHECK.due("p46 beside fifteen texts, too", x.tried(0, 0), 450);
        Check.feedAll(x, "let h<1");
        CHECK.due("p46 a question says nothing here", x.tried(2, 2), 3);
        x.ask(8, 2, 0, 0);
        Check.feedAll(x, "let h<1");
        CHECK.due("p46 a question says nothing here", x.tried(2, 2), 3);
    }
}
