import java.util.function.Supplier;
import java.util.function.ToIntFunction;

/** The edges of promises 47 to 49: the image, undo, counts. */
final class ImageEdgesTests {
    private static final Check CHECK = new Check("ImageEdgesTests");
    private static final Edges NEW = new Edges(CHECK, FreeCity::new);
    private static final Edges LIVELY = new Edges(CHECK, Cities::lively);

    public static void main(String[] args) {
        undoWithoutImage();
        imageOfANewObject();
        allIsAsTheImage();
        imageIsNoPartOfIt();
        anotherImage();
        fullAndNoMore();
        countBounds();
        countAnswers();
        CHECK.end();
    }

    private static void undoWithoutImage() {
        NEW.refused("p48 STATE: there is none", -3, FreeCity::undo);
        Edges changed = new Edges(CHECK, () -> {
            FreeCity x = new FreeCity();
            x.day(50);
            x.rule(0, 0, true);
            x.vote(0, 9);
            Check.feedAll(x, "let s=0");
            return x;
        });
        changed.refused("p48 STATE: there is none", -3, FreeCity::undo);
    }

    private static void imageOfANewObject() {
        FreeCity x = new FreeCity();
        CHECK.due("p47 TODAY", x.image(), 0);
        x.day(50);
        x.yard(3, 5);
        CHECK.due("p48 TODAY", x.undo(), 0);
        CHECK.due("p48 all is as it was", x.count(2), 0);
        CHECK.due("p48 all is as it was", x.yard(3, 0), 0);
    }

    /** An image of one city, then another one's calls, then undo: as the first one with its image. */
    private static void undone(String what, Supplier<FreeCity> maker, ToIntFunction<FreeCity> change) {
        FreeCity plain = maker.get();
        plain.image();
        FreeCity changed = maker.get();
        changed.image();
        change.applyAsInt(changed);
        CHECK.due("p48 TODAY after " + what, changed.undo(), plain.count(2));
        String unlike = Portrait.unlike(Portrait.of(changed), Portrait.of(plain));
        CHECK.so("p48 " + what + " is undone, but there is " + unlike, unlike.isEmpty());
    }

    private static void allIsAsTheImage() {
        undone("yard", Cities::lively, x -> x.yard(4, 5));
        undone("yard of a wall", Cities::lively, x -> x.yard(3, 0));
        undone("day", Cities::lively, x -> x.day(50));
        undone("feed", Cities::lively, x -> x.feed(0x7831L, 2));
        undone("text", Cities::lively, x -> x.text(1, 40));
        undone("a text with a fault", Cities::lively, x -> x.feed(0x78L, 1) + x.text(1, 40));
        undone("another text on the tape", Cities::lively, x -> x.text(2, 999) + Check.feedAll(x, "bar s=1"));
        undone("use", Cities::lively, x -> x.use(1, 0, 3, 3));
        undone("quota", Cities::lively, x -> x.quota(5, 1, 500));
        undone("rule", Cities::lively, x -> x.rule(9, 0, false));
        undone("lean", Cities::lively, x -> x.lean(4, 8));
        undone("lean on a fallen one", Cities::lively, x -> x.lean(4, 2));
        undone("appeal", Cities::lively, x -> x.appeal(8, 1, 80));
        undone("an appeal heard", Cities::lively, x -> x.appeal(8, 1, 80) + x.day(20));
        undone("another right of that number", Cities::lively, x -> x.rule(10, 0, true) + x.lean(9, 8) + x.appeal(9, 0, 99));
        undone("term", Cities::lively, x -> x.term(0, 5));
        undone("step", Cities::lively, x -> x.term(1, 5));
        undone("ship", Cities::lively, x -> x.ship(0, 7));
        undone("berth", Cities::lively, x -> x.berth(1, 1));
        undone("leave to the roads", Cities::lively, x -> x.leave(0, 0));
        undone("leave for good", Cities::lively, x -> x.leave(1, 1));
        undone("seized", Cities::lively, x -> x.leave(0, 2));
        undone("goods", Cities::lively, x -> x.goods(0, 40));
        undone("coin, sold", Cities::lively, x -> x.coin(1, 15, false));
        undone("coin, through", Cities::lively, x -> x.coin(1, 15, true));
        undone("tariff", Cities::lively, x -> x.tariff(0, 1, 99));
        undone("part", Cities::lively, x -> x.tariff(1, 1, 99));
        undone("share", Cities::lively, FreeCity::share);
        undone("firm", Cities::lively, x -> x.firm(2, 1));
        undone("used", Cities::lively, x -> x.used(1, 999));
        undone("door", Cities::lively, x -> x.door(7, 0, 23));
        undone("seen", Cities::lively, x -> x.seen(0, 20, 6));
        undone("vote", Cities::lively, x -> x.vote(5, 99999));
        undone("say", Cities::lively, x -> x.say(0, 0, 2, true, -1, true));
        undone("ask", Cities::lively, x -> x.ask(9, 0, 1 << 8, 0));
        undone("want", Cities::lively, x -> x.want(0));
        undone("tried", Cities::lively, x -> x.tried(0, 0));
        undone("nothing", Cities::crammed, x -> 0);
        undone("what the full city takes", Cities::crammed, x -> x.yard(20, 5) + x.vote(0, 1) + x.leave(0, 1) + x.day(1));
    }

    private static void imageIsNoPartOfIt() {
        FreeCity x = new FreeCity();
        x.vote(0, 1);
        x.image();
        for (int i = 0; i < 3; i++) {
            x.vote(0, 7);
            CHECK.due("p48 THE IMAGE is no part of what comes back", x.undo(), 0);
            CHECK.due("p48 as THE IMAGE", x.vote(0, 5), 1);
        }
        CHECK.due("p48 what was since is gone", x.undo(), 0);
        CHECK.due("p48 as THE IMAGE", x.vote(0, 1), 1);
        new Edges(CHECK, () -> {
            FreeCity y = Cities.lively();
            y.image();
            return y;
        }).refused("p48 undo at once changes nothing", 40, FreeCity::undo);
    }

    private static void anotherImage() {
        FreeCity x = new FreeCity();
        x.vote(0, 1);
        CHECK.due("p47 TODAY", x.image(), 0);
        x.day(3);
        x.vote(0, 2);
        CHECK.due("p47 TODAY", x.image(), 3);
        x.vote(0, 3);
        x.day(50);
        CHECK.due("p48 the later one", x.undo(), 3);
        CHECK.due("p48 the later one", x.vote(0, 4), 2);
        x.undo();
        x.day(46);
        CHECK.due("p47 TODAY", x.image(), 49);
        CHECK.due("p48 the latest", x.undo(), 49);
        for (int day = 49; day < 999; day += 50) {
            x.day(50);
        }
        CHECK.due("p47 the last DAY", x.image(), 999);
        CHECK.due("p4 no DAY more", x.day(1), -2);
        CHECK.due("p48 the last DAY", x.undo(), 999);
    }

    /** What was full is so no more when an image comes back, and the numbers go on from there. */
    private static void fullAndNoMore() {
        FreeCity x = new FreeCity();
        x.firm(0, -1);
        x.image();
        for (int i = 0; i < 50; i++) {
            x.rule(0, 0, true);
        }
        for (int i = 0; i < 12; i++) {
            x.ship(0, 5);
        }
        for (int i = 0; i < 9; i++) {
            x.firm(0, -1);
        }
        for (int i = 0; i < 40; i++) {
            x.used(0, 5);
        }
        CHECK.due("p12 FULL", x.rule(0, 0, true), -4);
        CHECK.due("p21 FULL", x.ship(0, 5), -4);
        CHECK.due("p29 FULL", x.firm(0, -1), -4);
        CHECK.due("p30 FULL", x.used(0, 5), -4);
        x.undo();
        CHECK.due("p12 FULL no more", x.rule(0, 0, true), 0);
        CHECK.due("p21 FULL no more", x.ship(0, 5), 0);
        CHECK.due("p29 FULL no more", x.firm(0, -1), 1);
        CHECK.due("p30 FULL no more", x.used(0, 5), 1);
        CHECK.due("p13 no right of that number", x.lean(0, 1), -1);
        CHECK.due("p22 no ship of that number", x.berth(1, 0), -1);
        CHECK.due("p31 USE since", x.left(0, 0), 5);
    }

    private static void countBounds() {
        LIVELY.bounds("p49 count's what", 0, 10, -1, (x, n) -> x.count(n));
        NEW.bounds("p49 count's what", 0, 10, -1, (x, n) -> x.count(n));
    }

    private static void countAnswers() {
        int[] lively = {2, 9, 40, 4, 100, 2, 1, 1, 1, 2, 7};
        int[] crammed = {15, 50, 31, 12, 0, 10, 6, 20, 6, 10, 120};
        FreeCity x = Cities.lively();
        FreeCity y = Cities.crammed();
        for (int what = 0; what <= 10; what++) {
            CHECK.due("p49 count " + what, x.count(what), lively[what]);
            CHECK.due("p49 count " + what + " at the most", y.count(what), crammed[what]);
        }
    }
}
