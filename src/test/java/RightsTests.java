/** Promises 10 to 20: rights, rulings, appeals. */
final class RightsTests {
    private static final Check CHECK = new Check("RightsTests");

    public static void main(String[] args) {
        use();
        quota();
        rule();
        lean();
        appeal();
        appealDays();
        term();
        fall();
        heldUp();
        late();
        calendar();
        again();
        leastRing();
        acts();
        whose();
        full();
        CHECK.end();
    }

    private static void use() {
        FreeCity x = new FreeCity();
        CHECK.due("p10 use", x.use(1, 0, 0, 0), 0);
        CHECK.due("p10 rail", x.use(2, 2, 29, 4), 1);
        CHECK.due("p10 post", x.use(3, 1, 5, 2), 2);
        CHECK.due("p10 kind", x.use(0, 0, 0, 0), -1);
        CHECK.due("p10 kind", x.use(4, 0, 0, 0), -1);
        CHECK.due("p10 side", x.use(1, 3, 0, 0), -1);
        CHECK.due("p10 side", x.use(1, -1, 0, 0), -1);
        CHECK.due("p10 spot", x.use(1, 0, 30, 0), -1);
        CHECK.due("p10 matter", x.use(1, 0, 0, 5), -1);
        CHECK.due("p10 matter", x.use(1, 0, 0, -1), -1);
        CHECK.due("p10 they stay", x.count(1), 3);
    }

    private static void quota() {
        FreeCity x = new FreeCity();
        CHECK.due("p11 customs", x.quota(4, 1, 500), 0);
        CHECK.due("p11 customs are no quota", x.left(1, 1), 0);
        CHECK.due("p11 quota", x.quota(5, 1, 9999), 1);
        CHECK.due("p11 quota of the side", x.left(1, 1), 9999);
        CHECK.due("p11 no other side's", x.left(1, 0), 0);
        CHECK.due("p11 quota", x.quota(5, 1, 0), 2);
        CHECK.due("p11 from now on", x.left(1, 1), 0);
        CHECK.due("p11 kind", x.quota(3, 0, 0), -1);
        CHECK.due("p11 kind", x.quota(6, 0, 0), -1);
        CHECK.due("p11 side ahead of n", x.quota(5, 3, -1), -1);
        CHECK.due("p11 n", x.quota(5, 1, 10000), -2);
        CHECK.due("p11 n", x.quota(4, 1, -1), -2);
        CHECK.due("p11 it stays", x.left(1, 1), 0);
        CHECK.due("p11 they stay", x.count(1), 3);
    }

    private static void rule() {
        FreeCity x = new FreeCity();
        CHECK.due("p12 rule", x.rule(29, 4, true), 0);
        CHECK.due("p12 rule", x.rule(0, 0, false), 1);
        CHECK.due("p12 spot", x.rule(30, 0, true), -1);
        CHECK.due("p12 matter", x.rule(0, 5, true), -1);
        CHECK.due("p12 it lets", x.force(3, 10799, 0), 1);
        CHECK.due("p12 it lets no other", x.force(3, 10799 - 24, 0), 0);
        CHECK.due("p12 its n", x.whose(0, 6), 10);
        CHECK.due("p12 its n", x.whose(1, 6), 20);
    }

    private static void lean() {
        FreeCity x = new FreeCity();
        x.rule(0, 0, true);
        x.rule(1, 0, true);
        x.rule(2, 0, true);
        x.use(1, 0, 0, 0);
        x.appeal(0, 0, 0);
        CHECK.due("p13 on a greater one", x.lean(0, 2), 1);
        CHECK.due("p13 on how many", x.lean(0, 1), 2);
        CHECK.due("p13 on a lesser one", x.lean(2, 0), 1);
        CHECK.due("p13 it does", x.lean(0, 1), -3);
        CHECK.due("p13 itself", x.lean(1, 1), -2);
        CHECK.due("p13 no ruling", x.lean(3, 1), -1);
        CHECK.due("p13 no ruling", x.lean(1, 3), -1);
        CHECK.due("p13 no ruling on itself", x.lean(3, 3), -1);
        CHECK.due("p13 an appeal is no ruling here", x.lean(4, 1), -1);
        CHECK.due("p13 no right", x.lean(5, 1), -1);
        CHECK.due("p13 no right", x.lean(1, -1), -1);
    }

    private static void appeal() {
        FreeCity x = new FreeCity();
        x.rule(0, 0, true);
        x.rule(1, 0, false);
        x.use(1, 0, 0, 0);
        CHECK.due("p14 appeal", x.appeal(0, 0, 0), 3);
        CHECK.due("p14 the other side", x.appeal(0, 1, 100), 4);
        CHECK.due("p14 again", x.appeal(0, 1, 100), -3);
        CHECK.due("p14 share ahead of again", x.appeal(0, 1, 101), -2);
        CHECK.due("p14 share", x.appeal(1, 1, -1), -2);
        CHECK.due("p14 the city doesn't", x.appeal(1, 2, 50), -1);
        CHECK.due("p14 side", x.appeal(1, -1, 500), -1);
        CHECK.due("p14 no ruling", x.appeal(2, 0, 50), -1);
        CHECK.due("p14 an appeal is no ruling here", x.appeal(3, 0, 50), -1);
        CHECK.due("p14 no right", x.appeal(5, 0, 50), -1);
        CHECK.due("p14 another ruling", x.appeal(1, 0, 51), 5);
        CHECK.due("p14 its n", x.whose(5, 7), 20);
        x.day(1);
        CHECK.due("p14 the first one was heard", x.late(3, 0), 1);
        CHECK.due("p14 no second one of a side even then", x.appeal(0, 0, 1), -3);
        x.day(14);
        CHECK.due("p14 fallen", x.fall(1, 0), 1);
        CHECK.due("p14 of a fallen one", x.appeal(1, 1, 1), -3);
    }

    private static void appealDays() {
        FreeCity x = new FreeCity();
        x.day(3);
        x.rule(0, 0, true);
        x.day(30);
        CHECK.due("p14 on the last day of the term", x.appeal(0, 0, 1), 1);
        x.day(1);
        CHECK.due("p14 behind the term", x.appeal(0, 1, 1), -3);
        x.term(0, 31);
        CHECK.due("p14 a longer term", x.appeal(0, 1, 1), 2);
        x.rule(0, 0, true);
        x.term(0, 0);
        CHECK.due("p14 a term of no days", x.appeal(3, 1, 1), 4);
        x.day(1);
        CHECK.due("p14 behind a term of no days", x.appeal(3, 0, 1), -3);
    }

    private static void term() {
        FreeCity x = new FreeCity();
        CHECK.due("p15 term", x.term(0, 99), 30);
        CHECK.due("p15 term", x.term(0, 0), 99);
        CHECK.due("p15 term", x.term(0, 100), -2);
        CHECK.due("p15 term", x.term(0, -1), -2);
        CHECK.due("p15 it stays", x.term(0, 1), 0);
        CHECK.due("p15 step", x.term(1, 20), 7);
        CHECK.due("p15 step", x.term(1, 1), 20);
        CHECK.due("p15 step", x.term(1, 0), -2);
        CHECK.due("p15 step", x.term(1, 21), -2);
        CHECK.due("p15 it stays", x.term(1, 5), 1);
        CHECK.due("p15 what", x.term(2, 5), -1);
        CHECK.due("p15 what", x.term(-1, 500), -1);
    }

    /** Rulings 0 .. 4: 1 leans on 0, 2 on 1 and 3; 4 alone. */
    private static FreeCity chain() {
        FreeCity x = new FreeCity();
        for (int i = 0; i < 5; i++) {
            x.rule(i, 0, true);
        }
        x.lean(1, 0);
        x.lean(2, 1);
        x.lean(2, 3);
        return x;
    }

    private static void fall() {
        FreeCity x = chain();
        CHECK.due("p16 would fall", x.fall(0, 3), 3);
        CHECK.due("p16 would fall", x.fall(1, 3), 2);
        CHECK.due("p16 would fall", x.fall(2, 3), 1);
        CHECK.due("p16 would fall", x.fall(3, 3), 2);
        CHECK.due("p16 stands", x.fall(2, 2), 1);
        CHECK.due("p16 not held up", x.fall(2, 1), 0);
        x.appeal(1, 0, 51);
        x.day(1);
        int[] fallen = {0, 1, 1, 0, 0};
        for (int i = 0; i < 5; i++) {
            CHECK.due("p16 fallen " + i, x.fall(i, 0), fallen[i]);
            CHECK.due("p16 standing " + i, x.fall(i, 2), 1 - fallen[i]);
            CHECK.due("p16 held up " + i, x.fall(i, 1), 0);
        }
        CHECK.due("p16 those that fell don't fall again", x.fall(0, 3), 1);
        CHECK.due("p16 of a fallen one none", x.fall(1, 3), 0);
        CHECK.due("p16 of a fallen one none", x.fall(2, 3), 0);
        x.lean(4, 2);
        CHECK.due("p16 one that leans on a fallen one later", x.fall(4, 0), 1);
        CHECK.due("p16 what", x.fall(0, 4), -1);
        CHECK.due("p16 what", x.fall(0, -1), -1);
        CHECK.due("p16 an appeal", x.fall(5, 0), -1);
        CHECK.due("p16 no right", x.fall(6, 0), -1);
        CHECK.due("p16 no right", x.fall(-1, 0), -1);
        FreeCity y = chain();
        y.lean(0, 2);
        CHECK.due("p16 in a ring all fall", y.fall(1, 3), 3);
        y.appeal(2, 1, 100);
        y.day(1);
        CHECK.due("p16 in a ring all fall", y.fall(1, 0) + y.fall(0, 0) + y.fall(2, 0), 3);
        CHECK.due("p16 that on which it leans stays", y.fall(3, 2), 1);
    }

    private static void heldUp() {
        FreeCity x = chain();
        x.day(1);
        x.appeal(0, 0, 50);
        int[] held = {1, 1, 1, 0, 0};
        for (int i = 0; i < 5; i++) {
            CHECK.due("p16 held up " + i, x.fall(i, 1), held[i]);
            CHECK.due("p16 standing " + i, x.fall(i, 2), 1 - held[i]);
            CHECK.due("p16 fallen " + i, x.fall(i, 0), 0);
        }
        CHECK.due("p16 held up ones would fall, too", x.fall(3, 3), 2);
        x.day(6);
        CHECK.due("p16 day 7 has not gone by", x.fall(2, 1), 1);
        x.day(1);
        CHECK.due("p16 heard on day 7", x.fall(2, 1), 0);
        CHECK.due("p16 50 does not overrule", x.fall(2, 2), 1);
        // Fallen and held up at once.
        x.appeal(1, 0, 51);
        x.appeal(2, 0, 0);
        x.day(7);
        CHECK.due("p16 fallen", x.fall(2, 0), 1);
        CHECK.due("p16 and held up", x.fall(2, 1), 1);
    }

    private static void late() {
        FreeCity x = chain();
        x.appeal(0, 0, 50);
        x.appeal(1, 0, 51);
        CHECK.due("p17 not heard", x.late(5, 0), 0);
        CHECK.due("p17 no day yet", x.late(5, 1), -5);
        CHECK.due("p17 not overruled yet", x.late(6, 2), 0);
        x.day(1);
        CHECK.due("p17 heard", x.late(5, 0), 1);
        CHECK.due("p17 on day 0", x.late(5, 1), 0);
        CHECK.due("p17 50 is not enough", x.late(5, 2), 0);
        CHECK.due("p17 one a day", x.late(6, 0), 0);
        x.day(20);
        CHECK.due("p17 on day 7", x.late(6, 1), 7);
        CHECK.due("p17 51 is enough", x.late(6, 2), 1);
        CHECK.due("p17 what", x.late(5, 3), -1);
        CHECK.due("p17 what", x.late(5, -1), -1);
        CHECK.due("p17 a ruling", x.late(0, 0), -1);
        CHECK.due("p17 no right", x.late(7, 0), -1);
        CHECK.due("p17 no right", x.late(-1, 0), -1);
    }

    private static void calendar() {
        FreeCity x = chain();
        x.day(1);
        x.term(1, 4);
        x.appeal(3, 0, 0);
        x.appeal(0, 1, 0);
        x.day(1);
        x.appeal(0, 0, 90);
        x.day(18);
        CHECK.due("p4 the council sits on day 4", x.late(5, 1), 4);
        CHECK.due("p4 on day 8", x.late(6, 1), 8);
        CHECK.due("p4 on day 12", x.late(7, 1), 12);
        x.appeal(4, 0, 90);
        x.term(1, 1);
        CHECK.due("p4 today is 20", x.day(1), 21);
        CHECK.due("p4 each day", x.late(8, 1), 20);
        // An appeal of a ruling that fell meanwhile is heard all the same.
        FreeCity y = chain();
        y.appeal(0, 0, 90);
        y.appeal(1, 0, 80);
        y.day(8);
        CHECK.due("p17 heard though it had fallen", y.late(6, 1), 7);
        CHECK.due("p17 and it overruled", y.late(6, 2), 1);
    }

    private static void again() {
        FreeCity x = chain();
        CHECK.due("p18 none", x.again(-1), 0);
        CHECK.due("p18 none", x.again(0), -1);
        x.lean(0, 2);
        CHECK.due("p18 three", x.again(-1), 3);
        CHECK.due("p18 from the least", x.again(0), 0);
        CHECK.due("p18 each on the next", x.again(1), 2);
        CHECK.due("p18 each on the next", x.again(2), 1);
        CHECK.due("p18 no more", x.again(3), -1);
        CHECK.due("p18 no such", x.again(-2), -1);
        CHECK.due("p18 no such", x.again(Integer.MIN_VALUE), -1);
        x.lean(4, 3);
        x.lean(3, 4);
        CHECK.due("p18 a shorter one", x.again(-1), 2);
        CHECK.due("p18 a shorter one", x.again(0), 3);
        CHECK.due("p18 a shorter one", x.again(1), 4);
        x.appeal(3, 0, 99);
        x.day(1);
        CHECK.due("p18 fallen ones lean still", x.again(0), 3);
        x.lean(0, 4);
        x.lean(4, 0);
        CHECK.due("p18 of several the least row", x.again(0), 0);
        CHECK.due("p18 of several the least row", x.again(1), 4);
    }

    private static void leastRing() {
        FreeCity x = new FreeCity();
        for (int i = 0; i < 8; i++) {
            x.rule(i, 0, true);
        }
        // Rings of four through 1: 1 7 2 3, 1 4 6 5 and 1 4 6 3; 1 2 leads into none of four.
        int[][] leans = {{1, 7}, {7, 2}, {2, 3}, {3, 1}, {1, 4}, {4, 6}, {6, 5}, {5, 1}, {6, 3}, {1, 0}};
        for (int[] pair : leans) {
            x.lean(pair[0], pair[1]);
        }
        int[] row = {1, 4, 6, 3};
        CHECK.due("p18 four", x.again(-1), 4);
        for (int i = 0; i < 4; i++) {
            CHECK.due("p18 least row " + i, x.again(i), row[i]);
        }
    }

    private static void acts() {
        FreeCity x = new FreeCity();
        for (int i = 0; i < 3; i++) {
            x.use(1, 0, 0, 0);
        }
        x.use(1, 2, 6, 1); // 3: n 7, d 2
        x.use(2, 1, 6, 1); // 4: n 7, d 1
        x.use(3, 2, 6, 1); // 5: n 7, d 2
        x.quota(4, 1, 40); // 6
        x.quota(5, 2, 40); // 7
        x.rule(0, 0, false); // 8: n 20, d 2
        x.appeal(8, 1, 3); // 9: n 20, d 1
        int[][] due = {
            {3, 17, 15 ^ 3, (15 ^ 3) * 2},
            {4, 51, 50 ^ 4, (50 ^ 4) * 2},
            {5, 17, 15 ^ 5, (15 ^ 5) * 2 + (6 ^ 5)},
            {6, 55, 54, 108},
            {7, 55, -53, -106},
            {8, 30, 28, 30 - 56},
            {9, 30 ^ 9, (30 ^ 9) - 1, (29 ^ 9) - ((29 ^ 9) - 1) * 2}};
        for (int[] row : due) {
            for (int act = 0; act < 3; act++) {
                CHECK.due("p19 act " + act + " of " + row[0], x.act(row[0], act, 10), row[act + 1]);
            }
        }
        CHECK.due("p19 wrapping", x.act(3, 0, Integer.MAX_VALUE), Integer.MIN_VALUE + 6);
        CHECK.due("p19 wrapping", x.act(4, 0, Integer.MAX_VALUE), (Integer.MIN_VALUE + 6) * 3);
        CHECK.due("p19 act", x.act(3, 3, 1), 0);
        CHECK.due("p19 act", x.act(3, -1, 1), 0);
        CHECK.due("p19 right", x.act(10, 0, 1), 0);
        CHECK.due("p19 right", x.act(-1, 0, 1), 0);
    }

    private static void whose() {
        FreeCity x = new FreeCity();
        x.use(1, 0, 3, 1);
        x.use(2, 0, 3, 2);
        x.use(3, 0, 3, 3);
        x.quota(4, 0, 70);
        x.quota(5, 0, 80);
        x.rule(0, 0, true);
        x.appeal(5, 0, 3);
        int[] n = {4, 5, 6, 70, 80, 10, 10};
        String[] under = {"01", "012", "013", "04", "045", "06", "067"};
        for (int right = 0; right < n.length; right++) {
            for (int k = 0; k <= 7; k++) {
                int due = under[right].indexOf('0' + k) >= 0 ? n[right] : -6;
                CHECK.due("p20 right " + right + " for kind " + k, x.whose(right, k), due);
            }
        }
        CHECK.due("p20 k", x.whose(0, 8), -1);
        CHECK.due("p20 k", x.whose(0, -1), -1);
        CHECK.due("p20 right", x.whose(7, 0), -1);
        CHECK.due("p20 right", x.whose(-1, 0), -1);
    }

    private static void full() {
        FreeCity x = new FreeCity();
        for (int i = 0; i < 49; i++) {
            CHECK.due("fifty rights", x.rule(i % 30, 0, true), i);
        }
        CHECK.due("p11 the last", x.quota(5, 0, 5), 49);
        CHECK.due("p10 full", x.use(1, 0, 0, 0), -4);
        CHECK.due("p10 none ahead of full", x.use(1, 0, 0, 5), -1);
        CHECK.due("p11 full", x.quota(5, 0, 6), -4);
        CHECK.due("p11 bad ahead of full", x.quota(5, 0, -6), -2);
        CHECK.due("p11 the quota stays", x.left(1, 0), 5);
        CHECK.due("p12 full", x.rule(0, 0, true), -4);
        CHECK.due("p14 full", x.appeal(0, 0, 1), -4);
        x.day(31);
        CHECK.due("p14 state ahead of full", x.appeal(0, 0, 1), -3);
        for (int i = 0; i < 48; i++) {
            CHECK.due("p13 a long row", x.lean(i, i + 1), 1);
        }
        CHECK.due("p16 a long row", x.fall(48, 3), 49);
        CHECK.due("p18 a long row is no ring", x.again(-1), 0);
        CHECK.due("p13 on two", x.lean(48, 0), 1);
        CHECK.due("p18 a ring of 49", x.again(-1), 49);
        CHECK.due("p18 its last", x.again(48), 48);
    }
}
