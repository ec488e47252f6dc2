/** Promises 1 to 9: a new object, ground, days, texts. */
final class GroundTests {
    private static final Check CHECK = new Check("GroundTests");

    public static void main(String[] args) {
        newObject();
        yard();
        line();
        day();
        feed();
        textNumbersAndRefusals();
        faults();
        depthOfFaults();
        force();
        which();
        why();
        unlike();
        CHECK.end();
    }

    private static void newObject() {
        FreeCity x = new FreeCity();
        for (int spot = 0; spot < 30; spot++) {
            CHECK.due("p1 ground of " + spot, x.yard(spot, 0), 0);
        }
        for (int what = 0; what <= 10; what++) {
            CHECK.due("p1 count " + what, x.count(what), 0);
        }
        CHECK.due("p1 force", x.force(3, 0, 0), 0);
        CHECK.due("p1 why", x.why(0, 0, 999), -5);
        CHECK.due("p1 no image", x.undo(), -3);
        FreeCity y = new FreeCity();
        x.yard(3, 5);
        CHECK.due("p1 objects share nothing", y.yard(3, 1), 0);
    }

    private static void yard() {
        FreeCity x = new FreeCity();
        CHECK.due("p2 yard", x.yard(29, 5), 0);
        CHECK.due("p2 yard", x.yard(29, 3), 5);
        CHECK.due("p2 yard", x.yard(29, 0), 3);
        CHECK.due("p2 spot", x.yard(-1, 0), -1);
        CHECK.due("p2 spot", x.yard(30, 9), -1);
        CHECK.due("p2 ground", x.yard(0, 6), -2);
        CHECK.due("p2 ground", x.yard(0, -1), -2);
        x.yard(1, 1);
        x.ship(0, 5);
        x.berth(0, 1);
        CHECK.due("p2 a ship, but a bad ground first", x.yard(1, 6), -2);
        CHECK.due("p2 a ship", x.yard(1, 1), -3);
        x.leave(0, 0);
        CHECK.due("p2 the ship left", x.yard(1, 4), 1);
        x.door(1, 0, 0);
        CHECK.due("p2 a painted door", x.yard(1, 0), -3);
        x.yard(2, 4);
        CHECK.due("p2 a door not painted", x.yard(2, 0), 4);
    }

    private static void line() {
        FreeCity x = new FreeCity();
        CHECK.due("p3 corner to corner", x.line(0, 29), 9);
        CHECK.due("p3 a row's end isn't beside the next one's start", x.line(5, 6), 6);
        CHECK.due("p3 itself", x.line(7, 7), 0);
        CHECK.due("p3 spot", x.line(-1, 0), -1);
        CHECK.due("p3 spot", x.line(0, 30), -1);
        x.yard(1, 5);
        x.yard(6, 5);
        CHECK.due("p3 no way", x.line(0, 2), 99);
        CHECK.due("p3 a wall from itself", x.line(1, 1), 0);
        CHECK.due("p3 from a wall", x.line(1, 2), 99);
        CHECK.due("p3 to a wall", x.line(2, 1), 99);
        CHECK.due("p3 wall to wall", x.line(1, 6), 99);
        x.yard(1, 0);
        x.yard(0, 5);
        CHECK.due("p3 a wall at spot 0", x.line(0, 1), 99);
        CHECK.due("p3 none on walls", x.line(1, 12), 3);
        // A long way: walls leave one path that goes to and fro.
        FreeCity y = new FreeCity();
        for (int column = 0; column < 5; column++) {
            y.yard(6 + column, 5);
            y.yard(18 + 1 + column, 5);
        }
        CHECK.due("p3 to and fro", y.line(0, 29), 5 + 2 + 5 + 2 + 5);
    }

    private static void day() {
        FreeCity x = new FreeCity();
        CHECK.due("p4 none", x.day(0), -2);
        CHECK.due("p4 too many", x.day(51), -2);
        CHECK.due("p4 far too many", x.day(Integer.MAX_VALUE), -2);
        CHECK.due("p4 fewer than none", x.day(Integer.MIN_VALUE), -2);
        for (int i = 1; i <= 19; i++) {
            CHECK.due("p4 day", x.day(50), 50 * i);
        }
        CHECK.due("p4 beyond", x.day(50), -2);
        CHECK.due("p4 to the last", x.day(49), 999);
        CHECK.due("p4 beyond", x.day(1), -2);
        CHECK.due("p4 it stays", x.count(2), 999);
    }

    private static void feed() {
        FreeCity x = new FreeCity();
        CHECK.due("p5 none", x.feed(1, 0), -2);
        CHECK.due("p5 nine", x.feed(1, 9), -2);
        CHECK.due("p5 the higher bytes are not taken", x.feed(0xFFFFFFFF6C6574L, 3), 3);
        CHECK.due("p5 behind", x.feed(0x20733D31L, 4), 7);
        CHECK.due("p5 it is let s=1", x.text(0, 0), 0);
        for (int i = 1; i <= 14; i++) {
            CHECK.due("p5 feed", x.feed(-1L, 8), 8 * i);
        }
        CHECK.due("p5 seven more", x.feed(0, 7), 119);
        CHECK.due("p5 two are too many", x.feed(0, 2), -4);
        CHECK.due("p5 bad first", x.feed(0, 9), -2);
        CHECK.due("p5 it stays", x.count(10), 119);
        CHECK.due("p5 the last", x.feed(0, 1), 120);
        CHECK.due("p5 full", x.feed(0, 1), -4);
        CHECK.due("p5 high bytes are no signs", x.text(0, 0), -10);
    }

    private static void textNumbersAndRefusals() {
        FreeCity x = new FreeCity();
        Check.feedAll(x, "let m=1");
        CHECK.due("p6 tongue", x.text(3, 1000), -1);
        CHECK.due("p6 tongue", x.text(-1, 0), -1);
        CHECK.due("p6 day", x.text(0, 1000), -2);
        CHECK.due("p6 day", x.text(0, -1), -2);
        CHECK.due("p6 the tape stays", x.count(10), 7);
        CHECK.due("p6 number", x.text(0, 999), 0);
        CHECK.due("p6 the tape is empty", x.count(10), 0);
        CHECK.due("p6 an empty tape ends too early", x.text(0, 0), -10);
        for (int i = 1; i < 15; i++) {
            CHECK.due("p6 number", Check.textOf(x, i % 3, i, "bar s=1"), i);
        }
        Check.feedAll(x, "lit");
        CHECK.due("p6 full", x.text(0, 0), -4);
        CHECK.due("p6 bad ahead of full", x.text(0, -1), -2);
        CHECK.due("p6 the tape stays when full", x.count(10), 3);
        CHECK.due("p6 fifteen", x.count(0), 15);
    }

    private static void fault(String text, int place) {
        FreeCity x = new FreeCity();
        int bytes = Check.feedAll(x, text);
        CHECK.due("p6 bytes of " + text, bytes, text.length());
        CHECK.due("p6 " + text, x.text(1, 5), place < 0 ? 0 : -10 - place);
        CHECK.due("p6 the tape is empty behind " + text, x.count(10), 0);
        CHECK.due("p6 texts behind " + text, x.count(0), place < 0 ? 1 : 0);
    }

    private static void faults() {
        fault("let s=1", -1);
        fault("bar p=0", -1);
        fault("let h<24&h>99|g=5;bar !(m=4)", -1);
        fault("x", 0);
        fault("Let s=1", 0);
        fault(";let s=1", 0);
        fault("l", 1);
        fault("ber s=1", 1);
        fault("bat s=1", 2);
        fault("lets=1", 3);
        fault("let", 3);
        fault("let ", 4);
        fault("let  s=1", 4);
        fault("let s=1 ", 7);
        fault("let s = 1", 5);
        fault("let s<1", 5);
        fault("let h=1", 5);
        fault("let h", 5);
        fault("let h>", 6);
        fault("let g=x", 6);
        fault("let g=-1", 6);
        fault("let g=00", 7);
        fault("let g=01", 7);
        fault("let g=100", 8);
        fault("let g=10", -1);
        fault("let s=1&", 8);
        fault("let s=1|", 8);
        fault("let s=1&&m=1", 8);
        fault("let s=1)", 7);
        fault("let (s=1", 8);
        fault("let (s=1;let m=1)", 8);
        fault("let ()", 5);
        fault("let (s=1)(m=1)", 9);
        fault("let s=1!m=1", 7);
        fault("let !", 5);
        fault("let s=1;", 8);
        fault("let s=1;;", 8);
        fault("let s=1;m=1", 8);
        fault("let s=1let m=1", 7);
        fault("let d=1", 4);
        fault("let s=1;let s=1;let s=1;let s=1;let s=1;let s=1;let s=1;let s=1", -1);
        fault("let s=1;let s=1;let s=1;let s=1;let s=1;let s=1;let s=1;let s=1;", 63);
        fault("let s=1;let s=1;let s=1;let s=1;let s=1;let s=1;let s=1;let s=1;let s=1", 63);
        fault("let s=1" + (char) 0, 7);
        fault("let s=1" + (char) 233, 7);
        fault("l" + (char) 229 + "t s=1", 1);
        StringBuilder whole = new StringBuilder("let s=1");
        while (whole.length() < 119) {
            whole.append("|s=2");
        }
        fault(whole.toString(), -1);
        fault(whole + "|", 120);
    }

    private static void depthOfFaults() {
        fault("let ((((((s=1))))))", -1);
        fault("let (((((((s=1)))))))", 10);
        fault("let !!!!!!s=1", -1);
        fault("let !!!!!!!s=1", 10);
        fault("let !(!(!(s=1)))", -1);
        fault("let !(!(!(!s=1)))", 10);
        fault("let !(!(!((s=1)))", 10);
        // A ! is closed where its F ends, a ( with its ): then others may be opened.
        fault("let !!!!!!s=1&!!!!!!m=1|((((((g=0))))))", -1);
        fault("let (((((!s=1&!m=1)))))", -1);
        fault("let !(((((s=1)))))&!(((((!s=1", 25);
    }

    private static void force() {
        FreeCity x = new FreeCity();
        Check.textOf(x, 0, 0, "let m=2&h>21|m=0&h<2;bar p=7");
        CHECK.due("p7 & ahead of |", x.force(0, Check.actOf(1, 3, 0, 1), 0), 1);
        CHECK.due("p7 h<2 at 2", x.force(0, Check.actOf(1, 3, 0, 2), 0), 0);
        CHECK.due("p7 h>21 at 21", x.force(0, Check.actOf(2, 3, 2, 21), 0), 0);
        CHECK.due("p7 h>21 at 22", x.force(0, Check.actOf(2, 3, 2, 22), 0), 1);
        CHECK.due("p7 barred by the last clause", x.force(0, Check.actOf(2, 7, 2, 22), 0), 0);
        CHECK.due("p7 one tongue alone", x.force(3, Check.actOf(2, 3, 2, 22), 0), 0);
        Check.textOf(x, 2, 4, "let s=2;bar !!h>22");
        CHECK.due("p7 two tongues, a day too early", x.force(3, Check.actOf(2, 3, 2, 22), 3), 0);
        CHECK.due("p7 two tongues", x.force(3, Check.actOf(2, 3, 2, 22), 4), 1);
        CHECK.due("p7 the other one bars", x.force(3, Check.actOf(2, 3, 2, 23), 4), 0);
        CHECK.due("p7 tongue", x.force(4, 0, 0), -1);
        CHECK.due("p7 tongue", x.force(-1, -1, 0), -1);
        CHECK.due("p7 act", x.force(0, 10800, 0), -2);
        CHECK.due("p7 act", x.force(3, -1, 0), -2);
        CHECK.due("p7 day", x.force(0, 10799, 1000), -2);
        CHECK.due("p7 day", x.force(0, 10799, -1), -2);
        CHECK.due("p7 the last act", x.force(0, 10799, 999), 0);
        // The ground is the one that there is now, and rulings count on all days.
        Check.textOf(x, 1, 0, "let g=3;bar g=3&!(s=0|s=1)");
        CHECK.due("p7 ground", x.force(1, Check.actOf(0, 9, 4, 4), 0), 0);
        x.yard(9, 3);
        CHECK.due("p7 ground", x.force(1, Check.actOf(0, 9, 4, 4), 0), 1);
        CHECK.due("p7 ground and side", x.force(1, Check.actOf(2, 9, 4, 4), 0), 0);
        x.rule(9, 4, true);
        CHECK.due("p7 a ruling lets", x.force(3, Check.actOf(2, 9, 4, 4), 0), 1);
        CHECK.due("p7 no tongue is asked of rulings", x.force(1, Check.actOf(2, 9, 4, 4), 0), 0);
        CHECK.due("p7 another matter", x.force(3, Check.actOf(2, 9, 3, 4), 0), 0);
        x.rule(9, 4, false);
        CHECK.due("p7 a later ruling", x.force(3, Check.actOf(2, 9, 4, 4), 500), 0);
        x.appeal(x.count(1) - 1, 0, 0);
        CHECK.due("p7 while it is held up the earlier one", x.force(3, Check.actOf(2, 9, 4, 4), 0), 1);
        x.day(1);
        CHECK.due("p7 heard, and it stands", x.force(3, Check.actOf(2, 9, 4, 4), 0), 0);
    }

    /** Which text of a tongue rules. */
    private static void which() {
        FreeCity x = new FreeCity();
        Check.textOf(x, 0, 10, "let s=0");
        Check.textOf(x, 0, 5, "let s=1");
        Check.textOf(x, 0, 10, "let s=2");
        Check.textOf(x, 0, 5, "let h<99");
        Check.textOf(x, 1, 10, "let s=0");
        int act = Check.actOf(2, 0, 0, 0);
        CHECK.due("p8 too early", x.why(0, act, 4), -5);
        CHECK.due("p8 of like days the greatest number", x.why(0, act, 5), 300);
        CHECK.due("p8 still", x.why(0, act, 9), 300);
        CHECK.due("p8 the greatest day", x.why(0, act, 10), 200);
        CHECK.due("p8 none of its clauses", x.why(0, 0, 10), -5);
        CHECK.due("p7 none of its clauses", x.force(0, 0, 10), 0);
        CHECK.due("p8 another tongue", x.why(1, 0, 10), 400);
    }

    private static void why() {
        FreeCity x = new FreeCity();
        Check.textOf(x, 2, 0, "let s=0;bar h>3;let m=1;bar p=4;let m=9;let m=8;let m=7;let p=5&h>22");
        CHECK.due("p8 clause", x.why(2, Check.actOf(0, 0, 0, 0), 0), 0);
        CHECK.due("p8 clause that bars", x.why(2, Check.actOf(0, 0, 0, 4), 0), 1);
        CHECK.due("p8 clause", x.why(2, Check.actOf(1, 0, 1, 4), 0), 2);
        CHECK.due("p8 clause", x.why(2, Check.actOf(1, 4, 1, 4), 0), 3);
        CHECK.due("p8 the eighth", x.why(2, Check.actOf(1, 5, 1, 23), 0), 7);
        CHECK.due("p8 none", x.why(2, Check.actOf(1, 5, 0, 3), 0), -5);
        CHECK.due("p8 the city has no ruling", x.why(3, 0, 0), -5);
        x.rule(0, 0, true);
        x.rule(0, 0, true);
        CHECK.due("p8 the greatest ruling", x.why(3, 0, 7), 10001);
        CHECK.due("p8 not of another spot", x.why(3, Check.actOf(0, 1, 0, 0), 7), -5);
        CHECK.due("p8 tongue", x.why(4, 0, 0), -1);
        CHECK.due("p8 act", x.why(3, 10800, 0), -2);
        CHECK.due("p8 day", x.why(3, 0, 1000), -2);
    }

    private static void unlike() {
        FreeCity x = new FreeCity();
        CHECK.due("p9 none", x.unlike(0, 1, 0, 0), 0);
        CHECK.due("p9 none", x.unlike(0, 1, 0, 1), -5);
        Check.textOf(x, 0, 0, "let s=2&p=29&m=4&h>22");
        CHECK.due("p9 one", x.unlike(0, 1, 0, 0), 1);
        CHECK.due("p9 the last act", x.unlike(1, 0, 0, 1), 10799);
        Check.textOf(x, 1, 3, "let h>22");
        CHECK.due("p9 449", x.unlike(0, 1, 3, 0), 449);
        CHECK.due("p9 least", x.unlike(0, 1, 3, 1), 23);
        CHECK.due("p9 all of one", x.unlike(1, 2, 3, 0), 450);
        x.rule(0, 0, true);
        CHECK.due("p9 rulings don't matter", x.unlike(1, 2, 3, 1), 23);
        Check.textOf(x, 2, 4, "let h>21;bar s=0&p=0&m=0&h<23");
        CHECK.due("p9 least, not where both let", x.unlike(1, 2, 4, 1), 24 + 22);
        CHECK.due("p9 a day earlier", x.unlike(0, 1, 2, 0), 1);
        CHECK.due("p9 tongue", x.unlike(3, 1, 0, 0), -1);
        CHECK.due("p9 tongue", x.unlike(0, 3, 0, 0), -1);
        CHECK.due("p9 one tongue that is none", x.unlike(3, 3, 0, 0), -1);
        CHECK.due("p9 what", x.unlike(0, 1, 0, 2), -1);
        CHECK.due("p9 what ahead of bad", x.unlike(0, 0, 0, -1), -1);
        CHECK.due("p9 one tongue", x.unlike(2, 2, 0, 0), -2);
        CHECK.due("p9 day", x.unlike(0, 1, 1000, 0), -2);
    }
}
