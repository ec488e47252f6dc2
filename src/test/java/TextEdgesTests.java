/** The edges of Terms 2 and of promises 6 to 9: what a text is, which one rules, what the city lets. */
final class TextEdgesTests {
    private static final Check CHECK = new Check("TextEdgesTests");
    private static final Edges LIVELY = new Edges(CHECK, Cities::lively);
    private static final Edges FULL = new Edges(CHECK, Cities::crammed);
    private static final int ALL = 10800;

    public static void main(String[] args) {
        everyByteThatGoesOn();
        endsTooEarly();
        numbers();
        clauses();
        sixOpen();
        textBounds();
        textOrder();
        textFull();
        textTape();
        faultChangesTheTapeAlone();
        facts();
        hours();
        signsOfE();
        lastClause();
        inForceFromItsDay();
        greatestDay();
        likeDays();
        twoTonguesAtLeast();
        rulingAheadOfTexts();
        rulingThatStandsNow();
        rulingOnEachDay();
        forceBounds();
        whyBounds();
        whyAnswers();
        whyByHours();
        unlikeBounds();
        unlikeOrder();
        unlikeActs();
        CHECK.end();
    }

    private static int read(String tape) {
        return Check.textOf(new FreeCity(), 0, 0, tape);
    }

    private static void isText(String tape) {
        CHECK.due("t2 " + tape + " is a TEXT", read(tape), 0);
    }

    private static void hasFault(String tape, int place) {
        CHECK.due("t2 FAULT of " + tape, read(tape), -10 - place);
    }

    /** Behind a start each of the 256 bytes: those told go on, with the others the fault is there. */
    private static void goesOn(String start, String bytes) {
        for (char each = 0; each < 256; each++) {
            int got = read(start + each);
            int place = got >= 0 ? start.length() + 1 : -10 - got;
            int due = bytes.indexOf(each) >= 0 ? start.length() + 1 : start.length();
            CHECK.due("t2 FAULT of " + start + " and the byte " + (int) each, place, due);
        }
    }

    private static void everyByteThatGoesOn() {
        String facts = "sgmph";
        String digits = "0123456789";
        goesOn("", "lb");
        goesOn("l", "e");
        goesOn("le", "t");
        goesOn("let", " ");
        goesOn("b", "a");
        goesOn("ba", "r");
        goesOn("bar", " ");
        goesOn("let ", facts + "!(");
        goesOn("bar ", facts + "!(");
        for (char fact : "sgmp".toCharArray()) {
            goesOn("let " + fact, "=");
            goesOn("let " + fact + "=", digits);
            goesOn("let " + fact + "=0", "&|;");
            goesOn("let " + fact + "=1", digits + "&|;");
            goesOn("let " + fact + "=90", "&|;");
        }
        goesOn("let h", "<>");
        goesOn("let h<", digits);
        goesOn("let h>", digits);
        goesOn("let h<0", "&|;");
        goesOn("let h>9", digits + "&|;");
        goesOn("let h>23", "&|;");
        goesOn("let !", facts + "!(");
        goesOn("let (", facts + "!(");
        goesOn("let (s=0", "&|)");
        goesOn("let (s=9", digits + "&|)");
        goesOn("let (s=0)", "&|;");
        goesOn("let !(s=0)", "&|;");
        goesOn("let (!s=0", "&|)");
        goesOn("let ((s=0)", "&|)");
        goesOn("let s=0&", facts + "!(");
        goesOn("let s=0|", facts + "!(");
        goesOn("let (s=0&", facts + "!(");
        goesOn("let s=0;", "lb");
        goesOn("let s=0;b", "a");
        goesOn("bar s=0;let", " ");
        goesOn("let s=0&m=1|p=2", digits + "&|;");
    }

    /** Each start of a text, that is no text itself, has its fault where it ends. */
    private static void endsTooEarly() {
        String whole = "let !(s=0|g=15)&m=2;bar h<9&h>10|p=29";
        String texts = " 15 19 27 31 32 36 37 ";
        for (int size = 0; size <= whole.length(); size++) {
            String start = whole.substring(0, size);
            if (texts.contains(" " + size + " ")) {
                isText(start);
            } else {
                hasFault(start, size);
            }
        }
    }

    private static void numbers() {
        for (String fact : new String[] {"s=", "g=", "m=", "p=", "h<", "h>"}) {
            for (int number = 0; number <= 99; number++) {
                isText("bar " + fact + number);
            }
            hasFault("bar " + fact + "00", 7);
            hasFault("bar " + fact + "01", 7);
            hasFault("bar " + fact + "09", 7);
            hasFault("bar " + fact + "100", 8);
            hasFault("bar " + fact + "999", 8);
        }
    }

    private static void clauses() {
        StringBuilder text = new StringBuilder("let s=0");
        for (int clause = 2; clause <= 8; clause++) {
            text.append(";bar s=0");
            isText(text.toString());
        }
        hasFault(text + ";", text.length());
        hasFault(text + ";bar s=0", text.length());
        goesOn(text.toString(), "&|");
        hasFault(text.substring(0, text.length() - 7), text.length() - 7);
    }

    private static void sixOpen() {
        String facts = "sgmph";
        goesOn("let (((((", facts + "!(");
        goesOn("let ((((((", facts);
        goesOn("let !!!!!", facts + "!(");
        goesOn("let !!!!!!", facts);
        goesOn("let !(!(!", facts + "!(");
        goesOn("let !(!(!(", facts);
        goesOn("let (!(!(!", facts);
        // A ( is open till its ), a ! till its F ends.
        goesOn("let ((((((s=0)&", facts + "!(");
        goesOn("let ((((((s=0)|(", facts);
        goesOn("let ((((((s=0|", facts);
        goesOn("let !!!!!!s=0&", facts + "!(");
        goesOn("let !!!!!!s=0|!!!!!!", facts);
        goesOn("let (((((!s=0&", facts + "!(");
        goesOn("let (((((!s=0|!", facts);
        goesOn("let !(((((s=0)", "&|)");
        goesOn("let !(((((s=0)))))&!!!!!", facts + "!(");
        goesOn("let !(((((s=0&", facts);
        goesOn("let ((((((s=0))))));let !!!!!", facts + "!(");
    }

    private static FreeCity readyToRead() {
        FreeCity x = new FreeCity();
        Check.feedAll(x, "let s=0");
        return x;
    }

    private static void textBounds() {
        Edges ready = new Edges(CHECK, TextEdgesTests::readyToRead);
        ready.bounds("p6 text's tongue", 0, 2, -1, (x, n) -> x.text(n, 0));
        ready.bounds("p6 text's day", 0, 999, -2, (x, n) -> x.text(0, n));
        LIVELY.beyond("p6 text's tongue, the TAPE stays", 0, 2, -1, (x, n) -> x.text(n, 7));
        LIVELY.beyond("p6 text's day, the TAPE stays", 0, 999, -2, (x, n) -> x.text(2, n));
    }

    /** The lively tape is a text; of one that is none the fault is told behind all refusals. */
    private static void textOrder() {
        LIVELY.refused("p6 NONE ahead of BAD", -1, x -> x.text(3, 1000));
        Edges faulty = new Edges(CHECK, () -> {
            FreeCity x = new FreeCity();
            Check.feedAll(x, "let x");
            return x;
        });
        faulty.refused("p6 NONE: THE TAPE stays, a FAULT or not", -1, x -> x.text(3, 0));
        faulty.refused("p6 BAD: THE TAPE stays, a FAULT or not", -2, x -> x.text(0, 1000));
        faulty.refused("p6 NONE ahead of BAD, a FAULT or not", -1, x -> x.text(-1, -1));
        Edges empty = new Edges(CHECK, FreeCity::new);
        empty.refused("p6 NONE of no bytes", -1, x -> x.text(3, 0));
        empty.refused("p6 BAD of no bytes", -2, x -> x.text(0, -1));
        empty.refused("p6 no bytes end too early", -10, x -> x.text(0, 0));
    }

    private static void textFull() {
        FULL.refused("p6 FULL: THE TAPE stays, a FAULT or not", -4, x -> x.text(0, 0));
        FULL.refused("p6 NONE ahead of FULL", -1, x -> x.text(3, 0));
        FULL.refused("p6 BAD ahead of FULL", -2, x -> x.text(0, 1000));
        FreeCity x = new FreeCity();
        for (int number = 0; number < 15; number++) {
            CHECK.due("p6 a FAULT has no number", Check.textOf(x, number % 3, 999 - number, "let"), -13);
            CHECK.due("t2 TEXTS are numbered from 0 on", Check.textOf(x, number % 3, 999 - number, "let s=0"), number);
            CHECK.due("t2 how many", x.count(0), number + 1);
        }
        Check.feedAll(x, "let s=0");
        CHECK.due("t2 TEXTS, 15 at most", x.text(1, 5), -4);
        CHECK.due("p6 FULL: THE TAPE stays", x.count(10), 7);
    }

    private static void textTape() {
        FreeCity x = new FreeCity();
        CHECK.due("p6 a TEXT", Check.textOf(x, 0, 0, "let s=0"), 0);
        CHECK.due("p6 THE TAPE is empty then", x.count(10), 0);
        CHECK.due("p6 a FAULT", Check.textOf(x, 0, 0, "let s=0;"), -18);
        CHECK.due("p6 THE TAPE is empty then", x.count(10), 0);
        StringBuilder fitting = new StringBuilder("let s=10");
        for (int i = 0; i < 28; i++) {
            fitting.append("|m=3");
        }
        isText(fitting.toString());
        hasFault(fitting.substring(0, 119), 119);
        hasFault(fitting.substring(0, 118) + "=&", 119);
        hasFault(fitting.substring(1) + "l", 0);
    }

    /** With a fault all is as it was, but for the tape. */
    private static void faultChangesTheTapeAlone() {
        FreeCity emptied = Cities.lively();
        emptied.text(2, 998);
        FreeCity faulty = Cities.lively();
        Check.feedAll(faulty, "&");
        CHECK.due("p6 a FAULT", faulty.text(0, 0), -18);
        FreeCity tried = Cities.lively();
        tried.tried(0, 0);
        String unlike = Portrait.unlike(Portrait.of(faulty), Portrait.of(tried));
        CHECK.so("p6 a FAULT empties THE TAPE alone, but there is " + unlike, unlike.isEmpty());
        CHECK.due("p6 no FAULT adds a TEXT", emptied.count(0), 3);
    }

    /** For how many acts a condition holds. */
    private static void holds(String e, int due) {
        FreeCity x = new FreeCity();
        x.yard(29, 5);
        x.yard(0, 3);
        x.yard(1, 3);
        CHECK.due("t2 " + e + " is read", Check.textOf(x, 0, 0, "let " + e), 0);
        CHECK.due("t2 ACTS of " + e, x.unlike(0, 1, 0, 0), due);
    }

    private static void facts() {
        for (int number = 0; number <= 99; number += number < 31 ? 1 : 17) {
            holds("s=" + number, number <= 2 ? ALL / 3 : 0);
            holds("m=" + number, number <= 4 ? ALL / 5 : 0);
            holds("p=" + number, number <= 29 ? ALL / 30 : 0);
            int spots = number == 0 ? 27 : number == 3 ? 2 : number == 5 ? 1 : 0;
            holds("g=" + number, spots * ALL / 30);
        }
    }

    private static void hours() {
        for (int number = 0; number <= 99; number += number < 33 ? 1 : 22) {
            holds("h<" + number, ALL / 24 * Math.min(number, 24));
            holds("h>" + number, ALL / 24 * Math.max(23 - number, 0));
        }
    }

    private static void signsOfE() {
        int sideMatter = 720;
        int spotOf = 360;
        holds("s=0&m=0", sideMatter);
        holds("s=0|m=0", 3600 + 2160 - sideMatter);
        holds("s=0&m=0|p=2", sideMatter + spotOf - 24);
        holds("p=2|s=0&m=0", sideMatter + spotOf - 24);
        holds("s=0&(m=0|p=2)", sideMatter + 120 - 24);
        holds("(m=0|p=2)&s=0", sideMatter + 120 - 24);
        holds("!s=0", 7200);
        holds("!!s=0", 3600);
        holds("!!!s=0", 7200);
        holds("!s=0&m=0", 2160 - sideMatter);
        holds("!(s=0&m=0)", ALL - sideMatter);
        holds("!s=0|m=0", 7200 + sideMatter);
        holds("!!!!!!s=1", 3600);
        holds("((((((s=1))))))", 3600);
        holds("s=0|s=1|s=2", ALL);
        holds("s=0&s=1", 0);
        holds("!(s=0|s=1)&!(m=0|m=1|m=2)&h>22", 3600 / 5 * 2 / 24);
    }

    private static void lastClause() {
        FreeCity x = new FreeCity();
        Check.textOf(x, 0, 0, "let s=0;bar m=0;let h<1");
        CHECK.due("t2 the first alone", x.force(0, Check.actOf(0, 0, 1, 1), 0), 1);
        CHECK.due("t2 the second behind the first", x.force(0, Check.actOf(0, 0, 0, 1), 0), 0);
        CHECK.due("t2 the third behind both", x.force(0, Check.actOf(0, 0, 0, 0), 0), 1);
        CHECK.due("t2 the second alone", x.force(0, Check.actOf(1, 0, 0, 1), 0), 0);
        CHECK.due("t2 the third alone", x.force(0, Check.actOf(1, 0, 1, 0), 0), 1);
        CHECK.due("t2 none: it is not LET", x.force(0, Check.actOf(1, 0, 1, 1), 0), 0);
        CHECK.due("t2 no TEXT: it is not LET", x.force(1, Check.actOf(0, 0, 1, 1), 0), 0);
        FreeCity y = new FreeCity();
        Check.textOf(y, 0, 0, "bar s=0;bar s=0;bar s=0;bar s=0;bar s=0;bar s=0;bar s=0;let s=0");
        CHECK.due("t2 the eighth", y.force(0, 0, 0), 1);
        CHECK.due("t2 of its SIDE alone", y.unlike(0, 1, 0, 0), 3600);
        FreeCity z = new FreeCity();
        Check.textOf(z, 0, 0, "let s=0;let s=0;let s=0;let s=0;let s=0;let s=0;let s=0;bar s=0");
        CHECK.due("t2 the eighth", z.unlike(0, 1, 0, 0), 0);
    }

    private static void inForceFromItsDay() {
        for (int day : new int[] {0, 1, 500, 998, 999}) {
            FreeCity x = new FreeCity();
            Check.textOf(x, 2, day, "let s=0");
            CHECK.due("t2 in force from DAY " + day + " on", x.force(2, 0, day), 1);
            CHECK.due("t2 in force on 999, from " + day, x.force(2, 0, 999), 1);
            CHECK.due("t2 why from DAY " + day + " on", x.why(2, 0, day), 0);
            if (day > 0) {
                CHECK.due("t2 not yet on the DAY ahead of " + day, x.force(2, 0, day - 1), 0);
                CHECK.due("t2 no why on the DAY ahead of " + day, x.why(2, 0, day - 1), -5);
                CHECK.due("t2 not yet on DAY 0, from " + day, x.force(2, 0, 0), 0);
            }
            CHECK.due("t2 another TONGUE's", x.why(1, 0, 999), -5);
        }
    }

    private static void greatestDay() {
        FreeCity x = new FreeCity();
        Check.textOf(x, 0, 6, "let s=0");
        Check.textOf(x, 0, 4, "let s=0");
        Check.textOf(x, 0, 5, "let s=0");
        Check.textOf(x, 1, 7, "let s=0");
        int[] due = {-5, -5, -5, -5, 100, 200, 0, 0};
        for (int day = 0; day < due.length; day++) {
            CHECK.due("t2 of those in force the greatest DAY: " + day, x.why(0, 0, day), due[day]);
        }
        CHECK.due("t2 still", x.why(0, 0, 999), 0);
        FreeCity y = new FreeCity();
        Check.textOf(y, 0, 4, "let s=0");
        Check.textOf(y, 0, 6, "bar s=0");
        CHECK.due("t2 ahead of it the other one", y.force(0, 0, 5), 1);
        CHECK.due("t2 one TEXT rules, not both", y.force(0, 0, 6), 0);
        Check.textOf(y, 0, 7, "bar s=1");
        CHECK.due("t2 the others don't help", y.why(0, 0, 7), -5);
    }

    private static void likeDays() {
        FreeCity x = new FreeCity();
        Check.textOf(x, 1, 8, "let s=0");
        Check.textOf(x, 1, 8, "bar s=0");
        Check.textOf(x, 0, 8, "let s=0");
        CHECK.due("t2 of like ones the greatest number", x.why(1, 0, 8), 100);
        CHECK.due("t2 of like ones the greatest number", x.force(1, 0, 8), 0);
        Check.textOf(x, 1, 8, "let s=1");
        CHECK.due("t2 of three like ones", x.why(1, Check.actOf(1, 0, 0, 0), 9), 300);
    }

    private static void twoTonguesAtLeast() {
        for (int set = 0; set < 8; set++) {
            FreeCity x = new FreeCity();
            for (int tongue = 0; tongue < 3; tongue++) {
                Check.textOf(x, tongue, 0, (set >> tongue & 1) != 0 ? "let s=0" : "bar s=0");
            }
            int due = Integer.bitCount(set) >= 2 ? 1 : 0;
            CHECK.due("t2 by two TONGUES at least: " + set, x.force(3, 0, 0), due);
            CHECK.due("t2 no RULING", x.why(3, 0, 0), -5);
            FreeCity y = new FreeCity();
            for (int tongue = 0; tongue < 3; tongue++) {
                if ((set >> tongue & 1) != 0) {
                    Check.textOf(y, tongue, 3, "let s=0");
                }
            }
            CHECK.due("t2 by two TONGUES that have TEXTS: " + set, y.force(3, 0, 3), due);
            CHECK.due("t2 on the DAY ahead: " + set, y.force(3, 0, 2), 0);
        }
    }

    private static FreeCity letByAll() {
        FreeCity x = new FreeCity();
        for (int tongue = 0; tongue < 3; tongue++) {
            Check.textOf(x, tongue, 5, "let h<24");
        }
        return x;
    }

    private static void rulingAheadOfTexts() {
        FreeCity x = letByAll();
        x.rule(14, 2, false);
        x.rule(15, 2, true);
        for (int side = 0; side < 3; side++) {
            for (int hour = 0; hour < 24; hour += 23) {
                CHECK.due("t2 barred by a RULING", x.force(3, Check.actOf(side, 14, 2, hour), 5), 0);
                CHECK.due("t2 LET by a RULING on a DAY without TEXTS", x.force(3, Check.actOf(side, 15, 2, hour), 4), 1);
                CHECK.due("t2 another MATTER", x.force(3, Check.actOf(side, 14, 1, hour), 5), 1);
                CHECK.due("t2 another MATTER", x.force(3, Check.actOf(side, 14, 3, hour), 5), 1);
                CHECK.due("t2 another SPOT", x.force(3, Check.actOf(side, 13, 2, hour), 5), 1);
                CHECK.due("t2 a TONGUE is asked of its TEXT", x.force(1, Check.actOf(side, 14, 2, hour), 5), 1);
                CHECK.due("t2 a TONGUE is asked of its TEXT", x.force(1, Check.actOf(side, 15, 2, hour), 4), 0);
            }
        }
        x.rule(14, 2, true);
        CHECK.due("t2 of several the greatest number lets", x.force(3, Check.actOf(0, 14, 2, 0), 0), 1);
        x.rule(14, 2, false);
        CHECK.due("t2 of several the greatest number bars", x.force(3, Check.actOf(0, 14, 2, 0), 999), 0);
        CHECK.due("p8 the RULING", x.why(3, Check.actOf(0, 14, 2, 0), 999), 10003);
    }

    private static void rulingThatStandsNow() {
        FreeCity x = letByAll();
        x.day(1);
        x.rule(14, 2, true);
        x.rule(14, 2, false);
        x.rule(3, 0, false);
        x.lean(2, 1);
        int about = Check.actOf(0, 14, 2, 0);
        int leaning = Check.actOf(0, 3, 0, 0);
        CHECK.due("t2 both stand", x.why(3, about, 5), 10001);
        CHECK.due("t2 it stands", x.why(3, leaning, 5), 10002);
        x.appeal(1, 0, 51);
        CHECK.due("t2 HELD UP is not STANDING", x.why(3, about, 5), 10000);
        CHECK.due("t2 HELD UP is not STANDING: the TEXTS", x.why(3, leaning, 5), -5);
        CHECK.due("t2 HELD UP is not STANDING: the TEXTS", x.force(3, leaning, 5), 1);
        x.day(7);
        CHECK.due("t2 FALLEN is not STANDING", x.why(3, about, 5), 10000);
        CHECK.due("t2 FALLEN is not STANDING: the TEXTS", x.force(3, leaning, 5), 1);
        x.appeal(0, 0, 0);
        CHECK.due("t2 none stands", x.why(3, about, 5), -5);
        CHECK.due("t2 none stands: the TEXTS", x.force(3, about, 4), 0);
        x.day(7);
        CHECK.due("t2 it stands again", x.why(3, about, 5), 10000);
    }

    /** A ruling that stands now tells of the days ahead of its own, too. */
    private static void rulingOnEachDay() {
        FreeCity x = letByAll();
        x.day(10);
        x.rule(14, 2, false);
        x.rule(15, 2, true);
        int barred = Check.actOf(1, 14, 2, 23);
        int let = Check.actOf(1, 15, 2, 0);
        for (int day : new int[] {0, 4, 5, 9, 10, 11, 999}) {
            CHECK.due("t2 STANDING now, on DAY " + day, x.force(3, barred, day), 0);
            CHECK.due("t2 STANDING now, on DAY " + day, x.force(3, let, day), 1);
            CHECK.due("p8 STANDING now, on DAY " + day, x.why(3, let, day), 10001);
        }
        x.appeal(1, 1, 51);
        x.day(50);
        CHECK.due("t2 FALLEN now, on a DAY on which it stood", x.force(3, let, 4), 0);
        CHECK.due("p8 FALLEN now, on a DAY on which it stood", x.why(3, let, 10), -5);
    }

    private static void forceBounds() {
        LIVELY.bounds("p7 force's tongue", 0, 3, -1, (x, n) -> x.force(n, 0, 0));
        LIVELY.bounds("p7 force's act by a TONGUE", 0, 10799, -2, (x, n) -> x.force(0, n, 0));
        LIVELY.bounds("p7 force's act by THE CITY", 0, 10799, -2, (x, n) -> x.force(3, n, 0));
        LIVELY.bounds("p7 force's day by a TONGUE", 0, 999, -2, (x, n) -> x.force(2, 0, n));
        LIVELY.bounds("p7 force's day by THE CITY", 0, 999, -2, (x, n) -> x.force(3, 0, n));
        LIVELY.refused("p7 NONE ahead of BAD act", -1, x -> x.force(4, 10800, 0));
        LIVELY.refused("p7 NONE ahead of BAD day", -1, x -> x.force(-1, 0, 1000));
        LIVELY.refused("p7 both BAD", -2, x -> x.force(0, -1, -1));
    }

    private static void whyBounds() {
        // The ACTS 0 and 10799 and all others have their why on each of the days.
        Edges ruled = new Edges(CHECK, () -> {
            FreeCity x = new FreeCity();
            for (int tongue = 0; tongue < 3; tongue++) {
                Check.textOf(x, tongue, 0, "bar h<24");
            }
            x.rule(0, 0, false);
            x.rule(29, 4, false);
            return x;
        });
        ruled.bounds("p8 why's tongue", 0, 3, -1, (x, n) -> x.why(n, 0, 0));
        ruled.bounds("p8 why's act by a TONGUE", 0, 10799, -2, (x, n) -> x.why(1, n, 0));
        ruled.bounds("p8 why's act by THE CITY", 0, 10799, -2, (x, n) -> x.why(3, n, 0));
        ruled.bounds("p8 why's day by a TONGUE", 0, 999, -2, (x, n) -> x.why(2, 0, n));
        ruled.bounds("p8 why's day by THE CITY", 0, 999, -2, (x, n) -> x.why(3, 0, n));
        LIVELY.refused("p8 NONE ahead of BAD act", -1, x -> x.why(4, 10800, 0));
        LIVELY.refused("p8 NONE ahead of BAD day", -1, x -> x.why(-1, 0, 1000));
        LIVELY.refused("p8 both BAD", -2, x -> x.why(3, -1, 1000));
    }

    private static void whyAnswers() {
        FreeCity x = new FreeCity();
        for (int number = 0; number < 14; number++) {
            Check.textOf(x, 0, 0, "bar s=0");
        }
        Check.textOf(x, 1, 0, "let m=0;let m=0;let m=0;let m=0;let m=0;let m=0;let m=0;bar m=0&s=0");
        CHECK.due("p8 the last TEXT and the last CLAUSE", x.why(1, 0, 0), 1407);
        CHECK.due("p8 the last but one CLAUSE", x.why(1, Check.actOf(1, 0, 0, 0), 0), 1406);
        CHECK.due("p8 -5: none", x.why(1, Check.actOf(1, 0, 1, 0), 0), -5);
        CHECK.due("p8 another TEXT", x.why(0, 0, 0), 1300);
        CHECK.due("p8 no RULING", x.why(3, 0, 0), -5);
        for (int i = 0; i < 50; i++) {
            x.rule(i % 2, 0, true);
        }
        CHECK.due("p8 the last RULING", x.why(3, Check.actOf(2, 1, 0, 23), 0), 10049);
        CHECK.due("p8 the last RULING but one", x.why(3, 0, 999), 10048);
        CHECK.due("p8 none", x.why(3, Check.actOf(0, 2, 0, 0), 0), -5);
    }

    private static void whyByHours() {
        FreeCity x = new FreeCity();
        Check.textOf(x, 2, 0, "let h<1;bar h>22;let h>0&h<2;bar s=1&h<2");
        int[] due = {0, 2, -5, -5, 1};
        int[] hours = {0, 1, 2, 22, 23};
        for (int i = 0; i < hours.length; i++) {
            CHECK.due("p8 in HOUR " + hours[i], x.why(2, Check.actOf(0, 29, 4, hours[i]), 0), due[i]);
            CHECK.due("p8 in HOUR " + hours[i], x.why(2, Check.actOf(1, 0, 0, hours[i]), 0), i < 2 ? 3 : due[i]);
        }
    }

    private static void unlikeBounds() {
        LIVELY.beyond("p9 unlike's a", 0, 2, -1, (x, n) -> x.unlike(n, 1, 40, 0));
        LIVELY.beyond("p9 unlike's b", 0, 2, -1, (x, n) -> x.unlike(1, n, 40, 0));
        for (int other = 0; other < 3; other++) {
            int b = other;
            LIVELY.within("p9 unlike's a with " + b, b == 0 ? 1 : 0, b == 2 ? 1 : 2, (x, n) -> x.unlike(n, b, 40, 0));
            LIVELY.within("p9 unlike's b with " + b, b == 0 ? 1 : 0, b == 2 ? 1 : 2, (x, n) -> x.unlike(b, n, 40, 0));
        }
        LIVELY.bounds("p9 unlike's day", 0, 999, -2, (x, n) -> x.unlike(0, 1, n, 0));
        LIVELY.bounds("p9 unlike's what", 0, 1, -1, (x, n) -> x.unlike(0, 1, 40, n));
        for (int tongue = 0; tongue < 3; tongue++) {
            int one = tongue;
            LIVELY.refused("p9 BAD: one TONGUE", -2, x -> x.unlike(one, one, 40, 0));
            LIVELY.refused("p9 BAD: one TONGUE, the least", -2, x -> x.unlike(one, one, 40, 1));
        }
    }

    private static void unlikeOrder() {
        LIVELY.refused("p9 NONE ahead of BAD: one that is no TONGUE", -1, x -> x.unlike(3, 3, 0, 0));
        LIVELY.refused("p9 NONE ahead of BAD: one that is no TONGUE", -1, x -> x.unlike(-1, -1, 0, 0));
        LIVELY.refused("p9 NONE a ahead of BAD day", -1, x -> x.unlike(3, 0, 1000, 0));
        LIVELY.refused("p9 NONE b ahead of BAD day", -1, x -> x.unlike(0, 3, -1, 0));
        LIVELY.refused("p9 NONE what ahead of BAD day", -1, x -> x.unlike(0, 1, 1000, 2));
        LIVELY.refused("p9 NONE what ahead of one TONGUE", -1, x -> x.unlike(0, 0, 0, 2));
        LIVELY.refused("p9 both BAD", -2, x -> x.unlike(0, 0, 1000, 0));
    }

    private static void unlikeActs() {
        FreeCity x = new FreeCity();
        Check.textOf(x, 0, 1, "let h<24");
        Check.textOf(x, 1, 2, "let h<24;bar s=2&p=29&m=4&h>22");
        CHECK.due("p9 ahead of both TEXTS", x.unlike(0, 1, 0, 0), 0);
        CHECK.due("p9 ahead of both TEXTS: none", x.unlike(0, 1, 0, 1), -5);
        CHECK.due("p9 all ACTS", x.unlike(0, 1, 1, 0), ALL);
        CHECK.due("p9 the least is 0", x.unlike(0, 1, 1, 1), 0);
        CHECK.due("p9 those that both let are not UNLIKE", x.unlike(0, 1, 2, 0), 1);
        CHECK.due("p9 the least is the last ACT", x.unlike(0, 1, 2, 1), ALL - 1);
        CHECK.due("p9 the other way round", x.unlike(1, 0, 2, 0), 1);
        CHECK.due("p9 the other way round", x.unlike(1, 0, 2, 1), ALL - 1);
        CHECK.due("p9 the third TONGUE has no TEXT", x.unlike(1, 2, 999, 0), ALL - 1);
        x.rule(29, 4, true);
        CHECK.due("p9 by TONGUES, whatever RULINGS say", x.unlike(0, 1, 2, 0), 1);
    }
}
