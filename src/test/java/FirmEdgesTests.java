/** The edges of what Terms 4 say of firms and quotas, and of promises 29 to 31. */
final class FirmEdgesTests {
    private static final Check CHECK = new Check("FirmEdgesTests");
    private static final Edges NEW = new Edges(CHECK, FreeCity::new);
    private static final Edges LIVELY = new Edges(CHECK, Cities::lively);
    private static final Edges FULL = new Edges(CHECK, Cities::crammed);

    public static void main(String[] args) {
        firmBounds();
        firmFull();
        usedBounds();
        usedFull();
        leftBounds();
        leftAtFirst();
        useWithAllOwned();
        leftToTheLast();
        leftIsNone();
        canNotClose();
        theFortieth();
        CHECK.end();
    }

    private static void firmBounds() {
        LIVELY.bounds("p29 firm's side", 0, 2, -1, (x, n) -> x.firm(n, -1));
        LIVELY.bounds("p29 firm's owner", -1, 1, -1, (x, n) -> x.firm(0, n));
        LIVELY.refused("p29 owned by itself", -1, x -> x.firm(0, 2));
        NEW.bounds("p29 the first FIRM's owner", -1, -1, -1, (x, n) -> x.firm(2, n));
        LIVELY.refused("p29 both NONE", -1, x -> x.firm(3, 2));
    }

    private static void firmFull() {
        FULL.refused("p29 FULL", -4, x -> x.firm(0, -1));
        FULL.refused("p29 FULL, owned", -4, x -> x.firm(2, 9));
        FULL.refused("p29 NONE side ahead of FULL", -1, x -> x.firm(3, -1));
        FULL.refused("p29 NONE owner ahead of FULL", -1, x -> x.firm(0, 10));
        FULL.refused("p29 NONE owner ahead of FULL", -1, x -> x.firm(0, -2));
        FreeCity x = new FreeCity();
        for (int firm = 0; firm < 10; firm++) {
            CHECK.due("t4 a refused FIRM has no number", x.firm(0, firm), -1);
            CHECK.due("t4 FIRMS 0 .. 9, as they come", x.firm(firm % 3, firm == 0 ? -1 : 0), firm);
        }
        CHECK.due("p29 FULL", x.firm(0, 0), -4);
        CHECK.due("p49 ten FIRMS", x.count(5), 10);
    }

    private static void usedBounds() {
        LIVELY.bounds("p30 used' firm", 0, 1, -1, (x, n) -> x.used(n, 5));
        LIVELY.bounds("p30 used' n", 1, 999, -2, (x, n) -> x.used(1, n));
        NEW.refused("p30 no FIRM yet", -1, x -> x.used(0, 5));
        LIVELY.refused("p30 NONE ahead of BAD", -1, x -> x.used(2, 0));
        LIVELY.refused("p30 NONE ahead of BAD", -1, x -> x.used(-1, 1000));
    }

    private static void usedFull() {
        FULL.refused("p30 FULL: 40", -4, x -> x.used(0, 5));
        FULL.refused("p30 NONE ahead of FULL", -1, x -> x.used(10, 5));
        FULL.refused("p30 BAD ahead of FULL", -2, x -> x.used(0, 1000));
        FreeCity x = new FreeCity();
        x.firm(0, -1);
        x.firm(1, -1);
        for (int times = 1; times <= 40; times++) {
            CHECK.due("p30 a refused one is no time", x.used(0, 0), -2);
            CHECK.due("p30 how many times, of all FIRMS", x.used(times % 2, 1), times);
        }
        CHECK.due("p30 FULL, though of each FIRM there are 20", x.used(1, 1), -4);
        CHECK.due("p31 it changes nothing", x.left(0, 1), 20);
    }

    private static void leftBounds() {
        LIVELY.bounds("p31 left's what", 0, 2, -1, (x, n) -> n == 2 ? x.left(n, 1) : x.left(n, 0));
        LIVELY.bounds("p31 left's firm", 0, 1, -1, (x, n) -> x.left(0, n));
        FULL.bounds("p31 left's firm", 0, 9, -1, (x, n) -> x.left(0, n));
        LIVELY.beyond("p31 LEFT's side", 0, 2, -1, (x, n) -> x.left(1, n));
        LIVELY.beyond("p31 the side that can't close", 0, 2, -1, (x, n) -> x.left(2, n));
        NEW.refused("p31 no FIRM yet", -1, x -> x.left(0, 0));
        NEW.refused("p31 both NONE", -1, x -> x.left(3, 3));
    }

    private static void leftAtFirst() {
        FreeCity x = new FreeCity();
        x.firm(0, -1);
        CHECK.due("p31 no USE", x.left(0, 0), 0);
        for (int side = 0; side < 3; side++) {
            CHECK.due("t4 QUOTA 0 at first", x.left(1, side), 0);
            CHECK.due("p31 -5: none", x.left(2, side), -5);
        }
        x.used(0, 1);
        CHECK.due("t4 LEFT below 0", x.left(1, 0), -1);
        CHECK.due("p31 the first USED exceeds QUOTA 0", x.left(2, 0), 0);
        CHECK.due("p31 not of another SIDE", x.left(2, 1), -5);
    }

    /** Ten firms in a row, each owned by the one ahead, of the three sides in turn. */
    private static void useWithAllOwned() {
        FreeCity x = new FreeCity();
        for (int firm = 0; firm < 10; firm++) {
            x.firm(firm % 3, firm - 1);
        }
        for (int firm = 0; firm < 10; firm++) {
            x.used(firm, 1 << firm);
        }
        for (int firm = 0; firm < 10; firm++) {
            CHECK.due("t4 with all that it owns (and those own): " + firm, x.left(0, firm), 1024 - (1 << firm));
        }
        FreeCity y = new FreeCity();
        for (int firm = 0; firm < 10; firm++) {
            y.firm(1, firm == 0 ? -1 : (firm - 1) / 2);
            y.used(firm, 1);
        }
        int[] due = {10, 6, 3, 3, 2, 1, 1, 1, 1, 1};
        for (int firm = 0; firm < 10; firm++) {
            CHECK.due("t4 with all that it owns, of two each: " + firm, y.left(0, firm), due[firm]);
        }
    }

    private static void leftToTheLast() {
        FreeCity x = new FreeCity();
        x.quota(5, 2, 9999);
        x.firm(2, -1);
        x.firm(0, 0);
        for (int i = 0; i < 10; i++) {
            x.used(0, 999);
            x.used(1, 999);
        }
        CHECK.due("t4 LEFT of 9999, other SIDES' FIRMS not counted", x.left(1, 2), 9);
        x.used(0, 9);
        CHECK.due("t4 nothing LEFT", x.left(1, 2), 0);
        CHECK.due("t4 it is not exceeded", x.left(2, 2), -5);
        x.used(1, 1);
        CHECK.due("t4 another SIDE's FIRM, though owned", x.left(2, 2), -5);
        x.used(0, 1);
        CHECK.due("t4 exceeded by one", x.left(1, 2), -1);
        CHECK.due("t4 the first USED with which it is exceeded", x.left(2, 2), 22);
        x.used(0, 1);
        CHECK.due("t4 still the first one", x.left(2, 2), 22);
        CHECK.due("p31 USE of the FIRM with what it owns", x.left(0, 0), 20 * 999 + 12);
        CHECK.due("p31 USE of the FIRM that is owned", x.left(0, 1), 10 * 999 + 1);
    }

    private static void leftIsNone() {
        FreeCity x = new FreeCity();
        x.firm(1, -1);
        for (int below = -1; below >= -4; below--) {
            x.used(0, 1);
            CHECK.due("p31 LEFT may be as a refusal is", x.left(1, 1), below);
        }
        FreeCity y = new FreeCity();
        y.firm(0, -1);
        for (int i = 0; i < 40; i++) {
            y.used(0, 999);
        }
        CHECK.due("p31 the least LEFT", y.left(1, 0), -39960);
    }

    private static void canNotClose() {
        FreeCity x = new FreeCity();
        x.firm(0, -1);
        x.firm(1, -1);
        x.used(1, 5);
        x.used(0, 5);
        x.used(1, 5);
        x.used(0, 5);
        int[] due = {1, 1, 3, 3, -5};
        int[] quotas = {0, 4, 5, 9, 10};
        for (int i = 0; i < due.length; i++) {
            x.quota(5, 0, quotas[i]);
            CHECK.due("p31 by order, from 0 on, of all: QUOTA " + quotas[i], x.left(2, 0), due[i]);
            CHECK.due("t4 LEFT of QUOTA " + quotas[i], x.left(1, 0), quotas[i] - 10);
        }
        CHECK.due("p31 of the other SIDE the first", x.left(2, 1), 0);
    }

    private static void theFortieth() {
        FreeCity x = new FreeCity();
        x.firm(2, -1);
        for (int i = 0; i < 40; i++) {
            x.used(0, 250 - i % 2);
        }
        CHECK.due("t4 USED by all forty", x.left(0, 0), 9980);
        x.quota(5, 2, 9980);
        CHECK.due("p31 the QUOTA is just USED by forty", x.left(2, 2), -5);
        CHECK.due("t4 nothing LEFT by forty", x.left(1, 2), 0);
        x.quota(5, 2, 9979);
        CHECK.due("p31 the fortieth can't close", x.left(2, 2), 39);
        x.quota(5, 2, 249);
        CHECK.due("p31 the first can't close", x.left(2, 2), 0);
        x.quota(5, 2, 250);
        CHECK.due("p31 the second can't close", x.left(2, 2), 1);
    }
}
