import java.util.ArrayList;
import java.util.List;

/** Promises 47 to 49, and that refused calls change nothing. */
final class ImageTests {
    private static final Check CHECK = new Check("ImageTests");

    public static void main(String[] args) {
        noImage();
        allComesBack();
        imageStays();
        count();
        refusalsChangeNothing();
        CHECK.end();
    }

    /** A city that has some of everything. */
    private static FreeCity lively() {
        FreeCity x = new FreeCity();
        x.yard(0, 1);
        x.yard(1, 2);
        x.yard(2, 4);
        x.yard(3, 5);
        Check.textOf(x, 0, 0, "let m=0&h>7;bar s=1");
        Check.textOf(x, 1, 1, "let h<20");
        x.day(2);
        x.use(3, 1, 4, 2);
        x.quota(5, 1, 70);
        x.rule(6, 0, true);
        x.rule(6, 1, false);
        x.lean(3, 2);
        x.appeal(2, 0, 60);
        x.ship(1, 90);
        x.ship(2, 40);
        x.berth(0, 0);
        x.goods(0, 50);
        x.coin(1, 20, false);
        x.share();
        x.coin(1, 10, false);
        x.coin(1, 5, true);
        x.firm(1, -1);
        x.firm(0, 0);
        x.used(1, 30);
        x.door(2, 4, 9);
        x.seen(0, 8, 5);
        x.vote(0, 50);
        x.vote(1, 30);
        x.say(0, 4, 1, true, 2, false);
        x.ask(6, 0, 4, 8);
        x.want(Check.actOf(0, 6, 0, 9));
        Check.feedAll(x, "let m=1");
        return x;
    }

    /** Answers to all that can be asked without changing anything. */
    private static List<Integer> portrait(FreeCity x) {
        List<Integer> all = new ArrayList<>();
        for (int i = 0; i < 30; i++) {
            all.add(x.line(28, i));
            all.add(x.whole(i / 5, i % 5));
            all.add(x.act(i / 3, i % 3, 11));
            all.add(x.fall(i / 3, i % 3));
            all.add(x.late(i / 3, i % 3));
            all.add(x.night(i % 8, i / 8 % 2));
            all.add(x.seat(i % 6, 9 + i));
            all.add(x.left(i % 3, i / 3));
        }
        for (int day : new int[] {0, 1, 2, 3, 500, 999}) {
            for (int hour = 0; hour < 24; hour += 6) {
                all.add(x.why(3, Check.actOf(0, 6, hour % 2, hour), day));
                all.add(x.why(0, Check.actOf(2, 1, 0, hour), day));
                all.add(x.force(3, Check.actOf(2, 1, 0, hour), day));
            }
            all.add(x.unlike(0, 1, day, 0));
            all.add(x.unlike(1, 2, day, 0));
            all.add(x.hold(day, 0));
            all.add(x.hold(day, 1));
        }
        for (int i = 0; i < 11; i++) {
            all.add(x.count(i));
            all.add(x.again(i - 1));
            all.add(x.whose(i, 0));
            all.add(x.judge(i, 0));
            all.add(x.judge(i, 1));
            all.add(x.who(i % 8, i % 4));
            all.add(x.sure(i));
            all.add(x.turn(20, i + 1));
        }
        all.add(x.best());
        return all;
    }

    private static void noImage() {
        FreeCity x = new FreeCity();
        CHECK.due("p48 none", x.undo(), -3);
        x.day(5);
        CHECK.due("p48 none", x.undo(), -3);
        CHECK.due("p48 today stays", x.count(2), 5);
        CHECK.due("p47 today", x.image(), 5);
        x.day(3);
        CHECK.due("p48 today", x.undo(), 5);
    }

    /** Each of these changes the lively city; what it had must come back. */
    private static void change(FreeCity x, int i) {
        switch (i) {
            case 0: x.yard(27, 5); break;
            case 1: x.day(50); break;
            case 2: x.feed(7, 1); break;
            case 3: x.text(1, 0); Check.textOf(x, 1, 1, "let m=2"); break;
            case 4: x.use(1, 0, 0, 0); break;
            case 5: x.quota(5, 1, 10); break;
            case 6: x.rule(6, 0, false); break;
            case 7: x.lean(2, 3); break;
            case 8: x.appeal(3, 1, 80); break;
            case 9: x.ship(0, 1); break;
            case 10: x.berth(1, 1); break;
            case 11: x.leave(0, 1); break;
            case 12: x.goods(0, 5); break;
            case 13: x.coin(1, 5, true); break;
            case 14: x.coin(1, 5, false); break;
            case 15: x.share(); break;
            case 16: x.firm(0, -1); break;
            case 17: x.used(0, 50); break;
            case 18: x.door(2, 0, 0); break;
            case 19: x.seen(0, 20, 6); break;
            case 20: x.vote(1, 99); break;
            case 21: x.say(0, 2, 3, true, -1, false); break;
            case 22: x.ask(6, 0, 0, 0); break;
            case 23: x.want(1); break;
            default: x.tried(0, 0);
        }
    }

    /** Each portrait is of a city of its own, since one is promised for 512 calls only. */
    private static void allComesBack() {
        List<Integer> before = portrait(lively());
        FreeCity imaged = lively();
        CHECK.due("p47 today", imaged.image(), 2);
        CHECK.so("p47 the image changes nothing", portrait(imaged).equals(before));
        FreeCity all = lively();
        all.image();
        for (int i = 0; i <= 24; i++) {
            FreeCity changed = lively();
            change(changed, i);
            CHECK.so("change " + i + " is seen", !portrait(changed).equals(before));
            FreeCity undone = lively();
            undone.image();
            change(undone, i);
            CHECK.due("p48 today", undone.undo(), 2);
            CHECK.so("p48 change " + i + " is undone", portrait(undone).equals(before));
            change(all, i);
        }
        CHECK.due("p48 today", all.undo(), 2);
        CHECK.so("p48 all changes are undone", portrait(all).equals(before));
        // Tariffs, parts, term and step can't be asked for without being set.
        FreeCity x = lively();
        x.image();
        x.tariff(0, 3, 55);
        x.tariff(1, 2, 66);
        x.term(0, 77);
        x.term(1, 8);
        x.undo();
        CHECK.due("p48 tariff", x.tariff(0, 3, 1), 10);
        CHECK.due("p48 part", x.tariff(1, 2, 1), 1);
        CHECK.due("p48 term", x.term(0, 1), 30);
        CHECK.due("p48 step", x.term(1, 1), 7);
        x.text(2, 0);
        Check.feedAll(x, "bar s=2;x");
        x.undo();
        CHECK.due("p6 the tape came back as it was", x.text(2, 0), 2);
        CHECK.due("p8 and it is the text", x.why(2, Check.actOf(0, 0, 1, 0), 0), 200);
    }

    private static void imageStays() {
        FreeCity x = new FreeCity();
        x.rule(0, 0, true);
        CHECK.due("p47 image", x.image(), 0);
        x.day(9);
        CHECK.due("p48 undo", x.undo(), 0);
        x.rule(1, 0, false);
        x.day(4);
        CHECK.due("p48 undo again", x.undo(), 0);
        CHECK.due("p48 one right", x.count(1), 1);
        CHECK.due("p12 numbered anew", x.quota(4, 0, 3), 1);
        CHECK.due("p20 a customs now", x.whose(1, 4), 3);
        x.day(1);
        CHECK.due("p47 another image", x.image(), 1);
        x.rule(1, 0, false);
        CHECK.due("p48 to the later one", x.undo(), 1);
        CHECK.due("p48 two rights", x.count(1), 2);
        CHECK.due("p48 still a customs", x.whose(1, 4), 3);
    }

    private static void count() {
        FreeCity x = lively();
        int[] due = {2, 5, 2, 2, 100, 2, 1, 1, 1, 1, 7};
        for (int what = 0; what <= 10; what++) {
            CHECK.due("p49 count " + what, x.count(what), due[what]);
        }
        CHECK.due("p49 what", x.count(11), -1);
        CHECK.due("p49 what", x.count(-1), -1);
    }

    private static void refusalsChangeNothing() {
        FreeCity x = lively();
        List<Integer> before = portrait(lively());
        int[] got = {x.yard(30, 0), x.yard(4, 6), x.yard(0, 0), x.yard(2, 0), x.day(0), x.feed(0, 0), x.text(3, 0),
            x.text(0, -1), x.use(1, 3, 0, 0), x.quota(5, 0, 10000), x.quota(5, 3, 1), x.rule(0, 5, true), x.lean(2, 2),
            x.lean(3, 2), x.appeal(2, 0, 1), x.appeal(2, 1, 101), x.term(0, 100), x.ship(0, 0), x.berth(1, 0),
            x.berth(1, 5), x.leave(1, 0), x.leave(0, 3), x.goods(1, 1), x.goods(0, 91), x.coin(1, 16, true),
            x.coin(1, 16, false), x.tariff(0, 4, 1), x.tariff(1, 0, 100), x.firm(0, 2), x.used(2, 1), x.used(0, 0),
            x.door(4, 0, 0), x.door(2, 5, 4), x.seen(0, 9, 5), x.seen(0, 3, 6), x.vote(0, -1), x.say(0, -1, 0, true, 0, true),
            x.say(0, 0, 8, true, 0, true), x.ask(0, 0, 1, 0), x.want(-1), x.want(Check.actOf(0, 6, 0, 9)), x.tried(0, 3),
            x.undo()};
        for (int i = 0; i < got.length; i++) {
            CHECK.so("refused: " + i, got[i] >= -4 && got[i] <= -1);
        }
        CHECK.due("term stays", x.term(0, 30), 30);
        CHECK.due("tariff stays", x.tariff(1, 0, 1), 1);
        CHECK.so("refusals change nothing", portrait(x).equals(before));
    }
}
