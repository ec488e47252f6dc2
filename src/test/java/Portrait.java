import java.util.ArrayList;
import java.util.List;

/**
 * All that can be seen of a city: at first by asking, then by changing it, so that the city is spent.
 * It makes some 250 calls of the 512 that a city is good for.
 */
final class Portrait {
    private final FreeCity x;
    private final List<String> lines = new ArrayList<>();

    private Portrait(FreeCity x) {
        this.x = x;
    }

    static List<String> of(FreeCity x) {
        Portrait portrait = new Portrait(x);
        portrait.counts();
        portrait.laws();
        portrait.rights();
        portrait.port();
        portrait.firms();
        portrait.nights();
        portrait.saidAndAsked();
        portrait.settings();
        portrait.newOnes();
        portrait.ground();
        portrait.image();
        return portrait.lines;
    }

    /** The first line by which two portraits differ, or an empty one. */
    static String unlike(List<String> one, List<String> other) {
        for (int i = 0; i < Math.max(one.size(), other.size()); i++) {
            String left = i < one.size() ? one.get(i) : "nothing";
            String right = i < other.size() ? other.get(i) : "nothing";
            if (!left.equals(right)) {
                return left + " instead of " + right;
            }
        }
        return "";
    }

    private void see(String call, int answer) {
        lines.add(call + " = " + answer);
    }

    private void counts() {
        for (int what = 0; what <= 10; what++) {
            see("count " + what, x.count(what));
        }
    }

    private void laws() {
        int today = x.count(2);
        for (int day : new int[] {0, today, 999}) {
            see("unlike 0 1 on " + day, x.unlike(0, 1, day, 0));
            see("unlike 1 2 on " + day, x.unlike(1, 2, day, 0));
        }
        for (int tongue = 0; tongue <= 3; tongue++) {
            see("why " + tongue, x.why(tongue, Cities.ASKED, today));
            see("why " + tongue, x.why(tongue, Check.actOf(1, 9, 1, 21), today));
        }
        see("force", x.force(3, Check.actOf(0, 10, 0, 9), today));
    }

    private void rights() {
        int count = x.count(1);
        for (int i = 0; i <= count; i = i < 9 ? i + 1 : Math.max(i + 1, count - 1)) {
            see("act of " + i, x.act(i, 2, 11));
            see("whose " + i, x.whose(i, 0));
            see("held up " + i, x.fall(i, 1));
            see("would fall with " + i, x.fall(i, 3));
            see("heard " + i, x.late(i, 1));
        }
        for (int i = -1; i < 3; i++) {
            see("again " + i, x.again(i));
        }
    }

    private void port() {
        int ships = x.count(3);
        for (int ship = 0; ship < ships; ship++) {
            see("aboard " + ship, x.whole(4, ship));
            see("place of " + ship, x.whole(5, ship));
        }
        for (int side = 0; side < 3; side++) {
            see("purse " + side, x.whole(0, side));
        }
        for (int good = 0; good < 4; good++) {
            see("bond " + good, x.whole(1, good));
            see("sold " + good, x.whole(2, good));
            see("through " + good, x.whole(3, good));
        }
    }

    private void firms() {
        int firms = x.count(5);
        for (int firm = 0; firm < firms; firm++) {
            see("use of " + firm, x.left(0, firm));
        }
        for (int side = 0; side < 3; side++) {
            see("left of " + side, x.left(1, side));
            see("can't close for " + side, x.left(2, side));
        }
    }

    private void nights() {
        int doors = x.count(6);
        for (int door = 0; door < doors; door++) {
            see("sure " + door, x.sure(door));
        }
        for (int person = 0; person < 8; person++) {
            see("night " + person, x.night(person, 1));
        }
    }

    private void saidAndAsked() {
        for (int day : new int[] {0, 9, 999}) {
            see("held by " + day, x.hold(day, 0));
            see("held with by " + day, x.hold(day, 1));
        }
        int all = (1 << x.count(8)) - 1;
        for (int answers : new int[] {0, all / 2, all}) {
            see("met by " + answers, x.judge(answers, 0));
            see("falls by " + answers, x.judge(answers, 1));
        }
        see("best", x.best());
    }

    /** What can't be asked without being set. */
    private void settings() {
        see("term", x.term(0, 98));
        see("step", x.term(1, 19));
        for (int good = 0; good < 4; good++) {
            see("tariff " + good, x.tariff(0, good, 1));
        }
        for (int side = 0; side < 3; side++) {
            see("part " + side, x.tariff(1, side, 2));
        }
        for (int list = 0; list < 6; list++) {
            see("votes " + list, x.vote(list, 9));
        }
        see("what the tape says", x.tried(0, 0));
    }

    /** Numbers that the next ones get. */
    private void newOnes() {
        for (int person = 0; person < 8; person++) {
            see("seen " + person, x.seen(person, 14, 7));
        }
        see("used", x.used(0, 1));
        see("said", x.say(0, 0, 0, true, -1, true));
        see("asked", x.ask(0, 0, 0, 0));
        see("wanted", x.want(10799));
        see("painted", x.door(7, 0, 0));
        see("ship", x.ship(0, 1));
        see("firm", x.firm(0, -1));
    }

    private void ground() {
        for (int spot = 0; spot < 30; spot++) {
            see("ground of " + spot, x.yard(spot, 0));
        }
    }

    private void image() {
        see("undo", x.undo());
        counts();
        see("unlike in the image", x.unlike(0, 1, 999, 0));
        see("place in the image", x.whole(5, 0));
        see("ground in the image", x.yard(20, 0));
    }
}
