import java.util.Arrays;

/**
 * A free city: its ground and texts, rights and rulings, ships and coin, doors by night, votes,
 * things said, questions and an image. The promises are those of the project's document.
 */
public final class FreeCity {
    public static final int NONE = -1, BAD = -2, STATE = -3, FULL = -4;

    private static final int NOT_ANY = -5, OTHER_KIND = -6, FAULT_BASE = -10, RULED_BASE = 10000;
    private static final int SPOTS = 30, COLUMNS = 6, SIDES = 3, MATTERS = 5, HOURS = 24;
    private static final int CELLS = SPOTS * MATTERS, BLOCKS = SIDES * CELLS, ACTS = BLOCKS * HOURS;
    private static final int LAST_DAY = 999, MOST_DAYS = 50, NO_WAY = 99;
    private static final int QUAY = 1, DOCK = 2, DOOR = 4, WALL = 5;
    private static final int ALL_SPOTS = 0x3FFFFFFF, FIRST_COLUMN = 0x01041041, LAST_COLUMN = 0x20820820;
    private static final int ALL_HOURS = 0xFFFFFF;
    private static final int TONGUES = 3, BY_CITY = 3, TAPE = 120, TEXTS = 15, CLAUSES = 8, MOST_OPEN = 6;
    // Two operands wait at each of the 7 levels of brackets, and one is at work: 15 are enough.
    private static final int STACK = 32;
    private static final int RIGHTS = 50;
    private static final int RIGHT = 0, USE = 1, RAIL = 2, POST = 3, CUSTOMS = 4, QUOTA = 5, RULING = 6, APPEAL = 7;
    private static final int[] KIND_ABOVE = {RIGHT, RIGHT, USE, USE, RIGHT, CUSTOMS, RIGHT, RULING};
    private static final int LET_N = 10, NOT_LET_N = 20;
    private static final int SHIPS = 12, GOODS = 4, MOST_TONS = 999, MOST_QUOTA = 9999;
    private static final int ROADS = -2, GONE = -3, SEIZED = -4;
    private static final int FIRMS = 10, USES = 40;
    private static final int DOORS = 6, DOOR_SETS = 1 << DOORS, PERSONS = 8, SIGHTS = 12;
    private static final int LISTS = 6, MOST_VOTES = 99999, MOST_SEATS = 60;
    private static final int THINGS = 8, SAYINGS = 20, QUESTIONS = 6, WANTED = 10;

    private final City city = new City();
    private final City kept = new City();
    private boolean hasImage;
    private final Reader reader = new Reader();
    private final Law law = new Law(city.land, city.court);
    private final int[] ringRow = new int[RIGHTS];
    private final int[] seats = new int[LISTS];

    public FreeCity() {
    }

    // ---- ground, texts

    public int yard(int spot, int ground) {
        if (!isSpot(spot)) {
            return NONE;
        }
        if (!isWithin(ground, 0, WALL)) {
            return BAD;
        }
        if (city.port.hasShipAt(spot) || city.night.isPainted(spot)) {
            return STATE;
        }
        int was = city.land.grounds[spot];
        city.land.grounds[spot] = ground;
        return was;
    }

    public int line(int a, int b) {
        return isSpot(a) && isSpot(b) ? city.land.far(a, b) : NONE;
    }

    public int day(int n) {
        if (!isWithin(n, 1, MOST_DAYS) || city.land.today + n > LAST_DAY) {
            return BAD;
        }
        for (int i = 0; i < n; i++) {
            city.court.sit(city.land.today);
            city.land.today++;
        }
        return city.land.today;
    }

    public int feed(long w, int n) {
        if (!isWithin(n, 1, 8)) {
            return BAD;
        }
        if (city.land.bytes + n > TAPE) {
            return FULL;
        }
        city.land.append(w, n);
        return city.land.bytes;
    }

    public int text(int tongue, int day) {
        if (!isTongue(tongue)) {
            return NONE;
        }
        if (!isDay(day)) {
            return BAD;
        }
        if (city.land.textCount >= TEXTS) {
            return FULL;
        }
        int fault = reader.takeTape(city.land);
        if (fault >= 0) {
            return FAULT_BASE - fault;
        }
        city.land.enact(new Text(city.land.textCount, tongue, day, reader.codeCopy()));
        return city.land.textCount - 1;
    }

    public int force(int tongue, int act, int day) {
        if (!isTongue(tongue) && tongue != BY_CITY) {
            return NONE;
        }
        if (!isAct(act) || !isDay(day)) {
            return BAD;
        }
        law.openOn(day);
        return asInt(tongue == BY_CITY ? law.cityLets(act) : law.tongueLets(tongue, act));
    }

    public int why(int tongue, int act, int day) {
        if (!isTongue(tongue) && tongue != BY_CITY) {
            return NONE;
        }
        if (!isAct(act) || !isDay(day)) {
            return BAD;
        }
        law.openOn(day);
        if (tongue != BY_CITY) {
            return law.tongueReason(tongue, act);
        }
        int ruling = law.rulingAbout(act / HOURS % CELLS);
        return ruling < 0 ? NOT_ANY : RULED_BASE + ruling;
    }

    public int unlike(int a, int b, int day, int what) {
        if (!isTongue(a) || !isTongue(b) || !isWithin(what, 0, 1)) {
            return NONE;
        }
        if (a == b || !isDay(day)) {
            return BAD;
        }
        law.openOn(day);
        return what == 0 ? law.unlikeCount(a, b) : law.leastUnlike(a, b);
    }

    // ---- rights, rulings

    public int use(int kind, int side, int spot, int matter) {
        if (!isWithin(kind, USE, POST) || !isSide(side) || !isSpot(spot) || !isMatter(matter)) {
            return NONE;
        }
        if (city.court.isFull()) {
            return FULL;
        }
        return city.court.grant(new Right(kind, city.court.count, side, spot + matter));
    }

    public int quota(int kind, int side, int n) {
        if (!isWithin(kind, CUSTOMS, QUOTA) || !isSide(side)) {
            return NONE;
        }
        if (!isWithin(n, 0, MOST_QUOTA)) {
            return BAD;
        }
        if (city.court.isFull()) {
            return FULL;
        }
        if (kind == QUOTA) {
            city.port.quotas[side] = n;
        }
        return city.court.grant(new Right(kind, city.court.count, side, n));
    }

    public int rule(int spot, int matter, boolean let) {
        if (!isSpot(spot) || !isMatter(matter)) {
            return NONE;
        }
        if (city.court.isFull()) {
            return FULL;
        }
        Right ruling = new Right(RULING, city.court.count, 2, let ? LET_N : NOT_LET_N);
        ruling.cell = cellOf(spot, matter);
        ruling.day = city.land.today;
        return city.court.grant(ruling);
    }

    public int lean(int ruling, int on) {
        if (!city.court.isRuling(ruling) || !city.court.isRuling(on)) {
            return NONE;
        }
        if (ruling == on) {
            return BAD;
        }
        if (hasBit(city.court.leans[ruling], on)) {
            return STATE;
        }
        city.court.leans[ruling] |= 1L << on;
        return Long.bitCount(city.court.leans[ruling]);
    }

    public int appeal(int ruling, int side, int share) {
        if (!city.court.isRuling(ruling) || !isWithin(side, 0, 1)) {
            return NONE;
        }
        if (!isWithin(share, 0, 100)) {
            return BAD;
        }
        if (!city.court.takesAppeal(ruling, side, city.land.today)) {
            return STATE;
        }
        if (city.court.isFull()) {
            return FULL;
        }
        return city.court.lodge(ruling, side, share);
    }

    public int term(int what, int n) {
        if (!isWithin(what, 0, 1)) {
            return NONE;
        }
        if (what == 0 ? !isWithin(n, 0, 99) : !isWithin(n, 1, 20)) {
            return BAD;
        }
        int was = what == 0 ? city.court.termDays : city.court.step;
        if (what == 0) {
            city.court.termDays = n;
        } else {
            city.court.step = n;
        }
        return was;
    }

    public int fall(int ruling, int what) {
        if (!city.court.isRuling(ruling)) {
            return NONE;
        }
        switch (what) {
            case 0:
                return asInt(hasBit(city.court.fallen(), ruling));
            case 1:
                return asInt(hasBit(city.court.heldUp(), ruling));
            case 2:
                return asInt(hasBit(city.court.standing(), ruling));
            case 3:
                return Long.bitCount(city.court.leaningOn(1L << ruling) & ~city.court.fallen());
            default:
                return NONE;
        }
    }

    public int late(int appeal, int what) {
        Right right = city.court.find(appeal);
        if (right == null || right.kind != APPEAL || !isWithin(what, 0, 2)) {
            return NONE;
        }
        int heardOn = city.court.heardOn[appeal];
        if (what == 1) {
            return heardOn;
        }
        return asInt(heardOn != NOT_ANY && (what == 0 || right.overrules()));
    }

    public int again(int i) {
        int size = city.court.findRing(ringRow);
        if (i == -1) {
            return size;
        }
        return isWithin(i, 0, size - 1) ? ringRow[i] : NONE;
    }

    public int act(int right, int act, int x) {
        Right found = city.court.find(right);
        return found == null ? 0 : found.perform(act, x);
    }

    public int whose(int right, int k) {
        Right found = city.court.find(right);
        if (found == null || !isWithin(k, RIGHT, APPEAL)) {
            return NONE;
        }
        return found.isUnder(k) ? found.n : OTHER_KIND;
    }

    // ---- ships, goods, coin

    public int ship(int good, int tons) {
        if (!isGood(good)) {
            return NONE;
        }
        if (!isWithin(tons, 1, MOST_TONS)) {
            return BAD;
        }
        return city.port.shipCount >= SHIPS ? FULL : city.port.addShip(good, tons);
    }

    public int berth(int ship, int spot) {
        if (!city.port.isShip(ship) || !isSpot(spot)) {
            return NONE;
        }
        int ground = city.land.grounds[spot];
        boolean takesShips = ground == QUAY || ground == DOCK;
        if (!takesShips || city.port.hasShipAt(spot) || city.port.places[ship] != ROADS) {
            return STATE;
        }
        city.port.places[ship] = spot;
        return 1;
    }

    public int leave(int ship, int how) {
        if (!city.port.isShip(ship) || !isWithin(how, 0, 2)) {
            return NONE;
        }
        int place = city.port.places[ship];
        if (place == GONE || place == SEIZED || how == 0 && place == ROADS) {
            return STATE;
        }
        city.port.places[ship] = ROADS - how;
        return city.port.aboard[ship];
    }

    public int goods(int ship, int n) {
        if (!city.port.isShip(ship)) {
            return NONE;
        }
        if (!isWithin(n, 1, MOST_TONS)) {
            return BAD;
        }
        if (city.port.places[ship] < 0 || city.port.aboard[ship] < n) {
            return STATE;
        }
        return city.port.land(ship, n);
    }

    public int coin(int good, int n, boolean through) {
        if (!isGood(good)) {
            return NONE;
        }
        if (!isWithin(n, 1, MOST_TONS)) {
            return BAD;
        }
        if (city.port.bond[good] < n) {
            return STATE;
        }
        city.port.release(good, n, through);
        return city.port.chest;
    }

    public int tariff(int what, int which, int n) {
        boolean known = what == 0 && isGood(which) || what == 1 && isSide(which);
        if (!known) {
            return NONE;
        }
        if (!isWithin(n, 0, 99)) {
            return BAD;
        }
        int[] row = what == 0 ? city.port.tariffs : city.port.parts;
        int was = row[which];
        row[which] = n;
        return was;
    }

    public int share() {
        return city.port.shareOut();
    }

    public int whole(int what, int which) {
        switch (what) {
            case 0:
                return isSide(which) ? city.port.purses[which] : NOT_ANY;
            case 1:
                return isGood(which) ? city.port.bond[which] : NOT_ANY;
            case 2:
                return isGood(which) ? city.port.sold[which] : NOT_ANY;
            case 3:
                return isGood(which) ? city.port.passed[which] : NOT_ANY;
            case 4:
                return city.port.isShip(which) ? city.port.aboard[which] : NOT_ANY;
            case 5:
                return city.port.isShip(which) ? city.port.places[which] : NOT_ANY;
            default:
                return NOT_ANY;
        }
    }

    public int firm(int side, int owner) {
        if (!isSide(side) || owner != -1 && !city.port.isFirm(owner)) {
            return NONE;
        }
        return city.port.firmCount >= FIRMS ? FULL : city.port.addFirm(side, owner);
    }

    public int used(int firm, int n) {
        if (!city.port.isFirm(firm)) {
            return NONE;
        }
        if (!isWithin(n, 1, MOST_TONS)) {
            return BAD;
        }
        return city.port.useCount >= USES ? FULL : city.port.addUse(firm, n);
    }

    public int left(int what, int which) {
        if (what == 0) {
            return city.port.isFirm(which) ? city.port.useOf(which) : NONE;
        }
        if (!isWithin(what, 1, 2) || !isSide(which)) {
            return NONE;
        }
        return what == 1 ? city.port.quotaLeft(which) : city.port.firstBeyondQuota(which);
    }

    // ---- doors by night

    public int door(int spot, int from, int to) {
        if (!isSpot(spot)) {
            return NONE;
        }
        if (!isHour(from) || !isHour(to) || from > to) {
            return BAD;
        }
        if (city.land.grounds[spot] != DOOR) {
            return STATE;
        }
        return city.night.doorCount >= DOORS ? FULL : city.night.addDoor(spot, from, to);
    }

    public int seen(int person, int spot, int hour) {
        if (!isPerson(person) || !isSpot(spot)) {
            return NONE;
        }
        if (!isHour(hour)) {
            return BAD;
        }
        int sight = city.night.sights[person * HOURS + hour];
        if (city.land.grounds[spot] == WALL || sight >= 0 && sight != spot) {
            return STATE;
        }
        if (sight < 0 && city.night.sightCount(person) >= SIGHTS) {
            return FULL;
        }
        city.night.sights[person * HOURS + hour] = spot;
        return city.night.sightCount(person);
    }

    public int who(int person, int set) {
        if (!isPerson(person)) {
            return NONE;
        }
        if (!isWithin(set, 0, city.night.allDoors())) {
            return BAD;
        }
        return asInt(city.night.couldPaint(person, set, city.land.openSpots()));
    }

    public int night(int person, int what) {
        if (!isPerson(person) || !isWithin(what, 0, 1)) {
            return NONE;
        }
        int most = city.night.mostPainted(person, city.land.openSpots());
        return what == 0 ? Integer.bitCount(most) : most;
    }

    public int sure(int door) {
        if (!isWithin(door, 0, city.night.doorCount - 1)) {
            return NONE;
        }
        int open = city.land.openSpots();
        int painter = NOT_ANY;
        for (int person = 0; person < PERSONS; person++) {
            if (city.night.couldPaint(person, 1 << door, open)) {
                if (painter != NOT_ANY) {
                    return NOT_ANY;
                }
                painter = person;
            }
        }
        return painter;
    }

    // ---- votes, things said

    public int vote(int list, int n) {
        if (!isWithin(list, 0, LISTS - 1)) {
            return NONE;
        }
        if (!isWithin(n, 0, MOST_VOTES)) {
            return BAD;
        }
        int were = city.hall.votes[list];
        city.hall.votes[list] = n;
        return were;
    }

    public int seat(int list, int n) {
        if (!isWithin(list, 0, LISTS - 1)) {
            return NONE;
        }
        if (!isWithin(n, 1, MOST_SEATS)) {
            return BAD;
        }
        city.hall.allot(n, seats);
        return seats[list];
    }

    public int turn(int n, int k) {
        if (!isWithin(n, 1, MOST_SEATS) || !isWithin(k, 1, MOST_SEATS)) {
            return BAD;
        }
        city.hall.allot(n, seats);
        int best = NOT_ANY;
        for (int set = 1; set < 1 << LISTS; set++) {
            boolean fewer = best == NOT_ANY || Integer.bitCount(set) < Integer.bitCount(best);
            if (fewer && seatsOf(set) >= k) {
                best = set;
            }
        }
        return best;
    }

    public int say(int person, int day, int first, boolean so, int second, boolean also) {
        if (!isPerson(person) || !isWithin(first, 0, THINGS - 1) || !isWithin(second, -1, THINGS - 1)) {
            return NONE;
        }
        if (!isDay(day)) {
            return BAD;
        }
        if (city.hall.sayingCount >= SAYINGS) {
            return FULL;
        }
        int other = second < 0 ? 0 : 1 << second;
        int yes = (so ? 1 << first : 0) | (also ? other : 0);
        int no = (so ? 0 : 1 << first) | (also ? 0 : other);
        return city.hall.addSaying(day, yes, no);
    }

    public int hold(int day, int what) {
        if (!isWithin(what, 0, 1)) {
            return NONE;
        }
        if (!isDay(day)) {
            return BAD;
        }
        int things = city.hall.bestThings(day);
        return what == 0 ? city.hall.trueSayings(day, things) : things;
    }

    // ---- answers

    public int ask(int spot, int matter, long withLet, long withNot) {
        if (!isSpot(spot) || !isMatter(matter)) {
            return NONE;
        }
        if (((withLet | withNot) & ~city.court.rulings()) != 0) {
            return BAD;
        }
        if (city.bench.questionCount >= QUESTIONS) {
            return FULL;
        }
        return city.bench.addQuestion(cellOf(spot, matter), withLet, withNot);
    }

    public int want(int act) {
        if (!isAct(act)) {
            return BAD;
        }
        if (city.bench.isWanted(act)) {
            return STATE;
        }
        return city.bench.wantedCount >= WANTED ? FULL : city.bench.addWanted(act);
    }

    public int judge(int answers, int what) {
        if (!isWithin(what, 0, 1)) {
            return NONE;
        }
        if (!isWithin(answers, 0, city.bench.allAnswers())) {
            return BAD;
        }
        return what == 0 ? metBy(answers) : fallsBy(answers, city.court.standing());
    }

    public int best() {
        int needed = neededAnswers();
        if (needed == NOT_ANY) {
            return NOT_ANY;
        }
        long standing = city.court.standing();
        int best = NOT_ANY;
        int fewest = RIGHTS + 1;
        int last = city.bench.allAnswers();
        for (int answers = 0; answers <= last; answers++) {
            if ((answers & needed) == needed) {
                int falls = fallsBy(answers, standing);
                if (falls < fewest) {
                    best = answers;
                    fewest = falls;
                }
            }
        }
        return best;
    }

    public int tried(int tongue, int what) {
        if (!isTongue(tongue) || !isWithin(what, 0, 2)) {
            return NONE;
        }
        int fault = reader.takeTape(city.land);
        if (fault >= 0) {
            return FAULT_BASE - fault;
        }
        law.openOn(city.land.today);
        law.putBeside(new Text(city.land.textCount, tongue, city.land.today, reader.codeCopy()));
        if (what == 0) {
            return law.unlikeCount(0, 1);
        }
        return what == 1 ? law.cityCount() : wantedLet();
    }

    // ---- the image

    public int image() {
        kept.copyFrom(city);
        hasImage = true;
        return city.land.today;
    }

    public int undo() {
        if (!hasImage) {
            return STATE;
        }
        city.copyFrom(kept);
        return city.land.today;
    }

    public int count(int what) {
        switch (what) {
            case 0:
                return city.land.textCount;
            case 1:
                return city.court.count;
            case 2:
                return city.land.today;
            case 3:
                return city.port.shipCount;
            case 4:
                return city.port.chest;
            case 5:
                return city.port.firmCount;
            case 6:
                return city.night.doorCount;
            case 7:
                return city.hall.sayingCount;
            case 8:
                return city.bench.questionCount;
            case 9:
                return city.bench.wantedCount;
            case 10:
                return city.land.bytes;
            default:
                return NONE;
        }
    }

    // ---- what several calls need

    private int seatsOf(int set) {
        int sum = 0;
        for (int list = 0; list < LISTS; list++) {
            if ((set >> list & 1) != 0) {
                sum += seats[list];
            }
        }
        return sum;
    }

    private int metBy(int answers) {
        law.openOn(city.land.today);
        int met = 0;
        for (int i = 0; i < city.bench.wantedCount; i++) {
            int act = city.bench.wanted[i];
            int question = city.bench.questionAbout(act / HOURS % CELLS);
            if (question < 0 ? law.cityLets(act) : (answers >> question & 1) != 0) {
                met++;
            }
        }
        return met;
    }

    /** The questions that must be answered LET for all wanted acts to be met; NOT_ANY if that is not enough. */
    private int neededAnswers() {
        law.openOn(city.land.today);
        int needed = 0;
        for (int i = 0; i < city.bench.wantedCount; i++) {
            int act = city.bench.wanted[i];
            int question = city.bench.questionAbout(act / HOURS % CELLS);
            if (question >= 0) {
                needed |= 1 << question;
            } else if (!law.cityLets(act)) {
                return NOT_ANY;
            }
        }
        return needed;
    }

    private int fallsBy(int answers, long standing) {
        return Long.bitCount(city.court.leaningOn(city.bench.namedBy(answers)) & standing);
    }

    private int wantedLet() {
        int let = 0;
        for (int i = 0; i < city.bench.wantedCount; i++) {
            if (law.cityLets(city.bench.wanted[i])) {
                let++;
            }
        }
        return let;
    }

    private static boolean isWithin(int n, int least, int most) {
        return n >= least && n <= most;
    }

    private static boolean isSpot(int spot) {
        return isWithin(spot, 0, SPOTS - 1);
    }

    private static boolean isSide(int side) {
        return isWithin(side, 0, SIDES - 1);
    }

    private static boolean isTongue(int tongue) {
        return isWithin(tongue, 0, TONGUES - 1);
    }

    private static boolean isMatter(int matter) {
        return isWithin(matter, 0, MATTERS - 1);
    }

    private static boolean isHour(int hour) {
        return isWithin(hour, 0, HOURS - 1);
    }

    private static boolean isDay(int day) {
        return isWithin(day, 0, LAST_DAY);
    }

    private static boolean isAct(int act) {
        return isWithin(act, 0, ACTS - 1);
    }

    private static boolean isGood(int good) {
        return isWithin(good, 0, GOODS - 1);
    }

    private static boolean isPerson(int person) {
        return isWithin(person, 0, PERSONS - 1);
    }

    private static int cellOf(int spot, int matter) {
        return spot * MATTERS + matter;
    }

    private static boolean hasBit(long bits, int place) {
        return (bits >> place & 1) != 0;
    }

    /** The place of the lowest bit that is set. */
    private static int leastBit(long bits) {
        return Long.bitCount(bits - 1 & ~bits);
    }

    private static int asInt(boolean so) {
        return so ? 1 : 0;
    }

    /** The spots (bits) to which one step, or none, leads from these; walls are not looked at. */
    private static int withBeside(int spots) {
        int sideways = (spots & ~LAST_COLUMN) << 1 | (spots & ~FIRST_COLUMN) >>> 1;
        return (spots | sideways | spots << COLUMNS | spots >>> COLUMNS) & ALL_SPOTS;
    }

    private static void copyRow(int[] from, int[] to) {
        System.arraycopy(from, 0, to, 0, Math.min(from.length, to.length));
    }

    private static void copyRow(long[] from, long[] to) {
        System.arraycopy(from, 0, to, 0, Math.min(from.length, to.length));
    }

    /** All that an image keeps. */
    private static final class City {
        final Land land = new Land();
        final Court court = new Court();
        final Port port = new Port();
        final Night night = new Night();
        final Hall hall = new Hall();
        final Bench bench = new Bench();

        void copyFrom(City other) {
            land.copyFrom(other.land);
            court.copyFrom(other.court);
            port.copyFrom(other.port);
            night.copyFrom(other.night);
            hall.copyFrom(other.hall);
            bench.copyFrom(other.bench);
        }
    }

    /** Ground, today, the tape and the texts in force. */
    private static final class Land {
        final int[] grounds = new int[SPOTS];
        int today;
        final byte[] tape = new byte[TAPE];
        int bytes;
        final Text[] texts = new Text[TEXTS];
        int textCount;

        void copyFrom(Land other) {
            copyRow(other.grounds, grounds);
            today = other.today;
            System.arraycopy(other.tape, 0, tape, 0, TAPE);
            bytes = other.bytes;
            System.arraycopy(other.texts, 0, texts, 0, TEXTS);
            textCount = other.textCount;
        }

        int openSpots() {
            int open = 0;
            for (int spot = 0; spot < SPOTS; spot++) {
                if (grounds[spot] != WALL) {
                    open |= 1 << spot;
                }
            }
            return open;
        }

        int far(int a, int b) {
            int open = openSpots();
            int reached = 1 << a;
            if (a == b) {
                return 0;
            }
            if ((reached & open) == 0) {
                return NO_WAY;
            }
            for (int steps = 1; steps < SPOTS; steps++) {
                reached = withBeside(reached) & open;
                if ((reached >> b & 1) != 0) {
                    return steps;
                }
            }
            return NO_WAY;
        }

        void append(long w, int n) {
            for (int i = n - 1; i >= 0 && bytes < TAPE; i--) {
                tape[bytes] = (byte) (w >> 8 * i);
                bytes++;
            }
        }

        void enact(Text made) {
            if (textCount < TEXTS) {
                texts[textCount] = made;
                textCount++;
            }
        }

        /** The text that rules by a tongue on a day, or null. */
        Text inForce(int tongue, int day) {
            Text found = null;
            for (int i = 0; i < textCount; i++) {
                Text each = texts[i];
                if (each != null && each.tongue == tongue && each.day <= day) {
                    if (found == null || each.day >= found.day) {
                        found = each;
                    }
                }
            }
            return found;
        }
    }

    /** A text that was read. It never changes, so an image may share it. */
    private static final class Text {
        final int number;
        final int tongue;
        final int day;
        /** Facts and signs behind their operands, as the reader writes them. */
        final int[] code;

        Text(int number, int tongue, int day, int[] code) {
            this.number = number;
            this.tongue = tongue;
            this.day = day;
            this.code = code;
        }
    }

    /**
     * Reads a tape as a text: writes each fact (its sign times 256 and its number) and, behind what
     * they join, the signs ! & | and l or b for the end of a clause that lets or bars.
     */
    private static final class Reader {
        // Each entry comes from a byte of its own, so there are never more than bytes.
        private final int[] code = new int[TAPE];
        private int written;
        private byte[] tape = new byte[0];
        private int end;
        private int at;

        /** Empties the tape: -1 if it was a text; else the place of its fault, to which the reading came. */
        int takeTape(Land land) {
            tape = land.tape;
            end = land.bytes;
            at = 0;
            written = 0;
            land.bytes = 0;
            for (int clauses = 1; clauses <= CLAUSES; clauses++) {
                if (!readClause()) {
                    return at;
                }
                if (at >= end) {
                    return -1;
                }
                if (clauses == CLAUSES || !skip(';')) {
                    return at;
                }
            }
            return at;
        }

        int[] codeCopy() {
            return Arrays.copyOf(code, written);
        }

        private boolean readClause() {
            int first = peek();
            boolean started = first == 'l' ? skip('l') && skip('e') && skip('t')
                : skip('b') && skip('a') && skip('r');
            return started && skip(' ') && readAny(0) && write(first, 0);
        }

        private boolean readAny(int open) {
            boolean good = readAll(open);
            for (int i = 0; i < TAPE && good && skip('|'); i++) {
                good = readAll(open) && write('|', 0);
            }
            return good;
        }

        private boolean readAll(int open) {
            boolean good = readFact(open);
            for (int i = 0; i < TAPE && good && skip('&'); i++) {
                good = readFact(open) && write('&', 0);
            }
            return good;
        }

        private boolean readFact(int open) {
            int sign = peek();
            switch (sign) {
                case '!':
                    return open < MOST_OPEN && skip('!') && readFact(open + 1) && write('!', 0);
                case '(':
                    return open < MOST_OPEN && skip('(') && readAny(open + 1) && skip(')');
                case 's':
                case 'g':
                case 'm':
                case 'p':
                    return skip(sign) && skip('=') && readNumber(sign);
                case 'h':
                    return skip('h') && (skip('<') ? readNumber('<') : skip('>') && readNumber('>'));
                default:
                    return false;
            }
        }

        private boolean readNumber(int sign) {
            int first = peek();
            if (first < '0' || first > '9') {
                return false;
            }
            at++;
            int number = first - '0';
            int second = peek();
            // A digit behind a 0 is left for what comes next, which has no place for it.
            if (number != 0 && second >= '0' && second <= '9') {
                at++;
                number = number * 10 + second - '0';
            }
            return write(sign, number);
        }

        private int peek() {
            return at >= 0 && at < end && at < tape.length ? tape[at] & 255 : -1;
        }

        private boolean skip(int sign) {
            if (peek() != sign) {
                return false;
            }
            at++;
            return true;
        }

        private boolean write(int sign, int number) {
            if (written >= code.length) {
                return false;
            }
            code[written] = sign << 8 | number;
            written++;
            return true;
        }
    }

    /**
     * What texts and rulings say of acts on one day. An act's block is its number without the hour;
     * a block is weighed at once for all hours, as bits, so that all acts can be gone through quickly.
     */
    private static final class Law {
        private final Land land;
        private final Court court;
        private final Text[] ruling = new Text[TONGUES];
        private long standing;
        private final int[] stack = new int[STACK];
        private int top;
        private final int[] holds = new int[CLAUSES];
        private final boolean[] lets = new boolean[CLAUSES];
        private int clauses;

        Law(Land land, Court court) {
            this.land = land;
            this.court = court;
        }

        void openOn(int day) {
            for (int tongue = 0; tongue < TONGUES; tongue++) {
                ruling[tongue] = land.inForce(tongue, day);
            }
            standing = court.standing();
        }

        /** Lets a text rule that the city doesn't have, until the law is opened again. */
        void putBeside(Text made) {
            if (isTongue(made.tongue)) {
                ruling[made.tongue] = made;
            }
        }

        boolean tongueLets(int tongue, int act) {
            return (tongueHours(tongue, act / HOURS) >> act % HOURS & 1) != 0;
        }

        boolean cityLets(int act) {
            return (cityHours(act / HOURS) >> act % HOURS & 1) != 0;
        }

        /** 100 times the text and the place of the clause by which a tongue lets or bars an act. */
        int tongueReason(int tongue, int act) {
            Text rules = ruling[tongue];
            if (rules == null) {
                return NOT_ANY;
            }
            weigh(rules.code, act / HOURS);
            for (int i = clauses - 1; i >= 0; i--) {
                if ((holds[i] >> act % HOURS & 1) != 0) {
                    return rules.number * 100 + i;
                }
            }
            return NOT_ANY;
        }

        int rulingAbout(int cell) {
            return court.lastAbout(cell, standing);
        }

        int unlikeCount(int a, int b) {
            int sum = 0;
            for (int block = 0; block < BLOCKS; block++) {
                sum += Integer.bitCount(tongueHours(a, block) ^ tongueHours(b, block));
            }
            return sum;
        }

        int leastUnlike(int a, int b) {
            for (int block = 0; block < BLOCKS; block++) {
                int differ = tongueHours(a, block) ^ tongueHours(b, block);
                if (differ != 0) {
                    return block * HOURS + leastBit(differ);
                }
            }
            return NOT_ANY;
        }

        int cityCount() {
            int sum = 0;
            for (int block = 0; block < BLOCKS; block++) {
                sum += Integer.bitCount(cityHours(block));
            }
            return sum;
        }

        private int cityHours(int block) {
            int ruled = rulingAbout(block % CELLS);
            if (ruled >= 0) {
                return court.letsByRuling(ruled) ? ALL_HOURS : 0;
            }
            int first = tongueHours(0, block);
            int second = tongueHours(1, block);
            int third = tongueHours(2, block);
            return first & second | first & third | second & third;
        }

        private int tongueHours(int tongue, int block) {
            Text rules = ruling[tongue];
            if (rules == null) {
                return 0;
            }
            weigh(rules.code, block);
            int let = 0;
            for (int i = 0; i < clauses; i++) {
                let = lets[i] ? let | holds[i] : let & ~holds[i];
            }
            return let;
        }

        /** For each clause of a code the hours in which it holds. */
        private void weigh(int[] code, int block) {
            top = 0;
            clauses = 0;
            for (int i = 0; i < code.length; i++) {
                int sign = code[i] >> 8;
                boolean joins = sign == '!' || sign == '&' || sign == '|';
                if (joins) {
                    join(sign);
                } else if (sign == 'l' || sign == 'b') {
                    closeClause(sign == 'l');
                } else if (top < STACK) {
                    stack[top] = factHours(sign, code[i] & 255, block);
                    top++;
                }
            }
        }

        private int factHours(int sign, int number, int block) {
            int spot = block / MATTERS % SPOTS;
            switch (sign) {
                case 's':
                    return block / CELLS == number ? ALL_HOURS : 0;
                case 'g':
                    return land.grounds[spot] == number ? ALL_HOURS : 0;
                case 'm':
                    return block % MATTERS == number ? ALL_HOURS : 0;
                case 'p':
                    return spot == number ? ALL_HOURS : 0;
                case '<':
                    return (1 << Math.min(number, HOURS)) - 1;
                default:
                    return ALL_HOURS & -2 << Math.min(number, HOURS);
            }
        }

        private void join(int sign) {
            if (sign == '!' && top >= 1) {
                stack[top - 1] = ALL_HOURS & ~stack[top - 1];
            } else if (sign != '!' && top >= 2) {
                int last = stack[top - 1];
                top--;
                stack[top - 1] = sign == '&' ? stack[top - 1] & last : stack[top - 1] | last;
            }
        }

        private void closeClause(boolean let) {
            if (top >= 1 && clauses < CLAUSES) {
                top--;
                holds[clauses] = stack[top];
                lets[clauses] = let;
                clauses++;
            }
        }
    }

    /** A right of any kind. It never changes once it is granted, so an image may share it. */
    private static final class Right {
        final int kind;
        final int number;
        final int side;
        final int n;
        /** Of a ruling: spot and matter; the day on which it came. */
        int cell;
        int day;
        /** Of an appeal. */
        int ruling;
        int share;

        Right(int kind, int number, int side, int n) {
            this.kind = kind;
            this.number = number;
            this.side = side;
            this.n = n;
        }

        boolean overrules() {
            return share > 50;
        }

        boolean isUnder(int k) {
            return kind == k || above(kind) == k || above(above(kind)) == k;
        }

        int perform(int act, int x) {
            switch (act) {
                case 0:
                    return binds(kind, x);
                case 1:
                    return gives(kind, x);
                case 2:
                    return hangs(kind, x);
                default:
                    return 0;
            }
        }

        private static int above(int k) {
            return k >= 0 && k < KIND_ABOVE.length ? KIND_ABOVE[k] : RIGHT;
        }

        // Each of the three takes the kind from which on a body is looked for: the right's own kind
        // where the document calls a body by name alone, the kind above the body's where it says super.

        private int binds(int from, int x) {
            switch (from) {
                case RIGHT:
                    return x + n;
                case RAIL:
                    return binds(above(RAIL), x) * 3;
                case CUSTOMS:
                    return binds(above(CUSTOMS), x + 5);
                case APPEAL:
                    return binds(above(APPEAL), x) ^ 9;
                default:
                    return binds(above(from), x);
            }
        }

        private int gives(int from, int x) {
            switch (from) {
                case RIGHT:
                    return binds(kind, x) - side;
                case USE:
                    return gives(above(USE), x) ^ number;
                case QUOTA:
                    return -gives(above(QUOTA), x);
                default:
                    return gives(above(from), x);
            }
        }

        private int hangs(int from, int x) {
            switch (from) {
                case RIGHT:
                    return gives(kind, x) * 2;
                case POST:
                    return hangs(above(POST), x) + gives(kind, 1);
                case RULING:
                    return binds(kind, x) - hangs(above(RULING), x);
                case APPEAL:
                    return hangs(above(APPEAL), x - 1);
                default:
                    return hangs(above(from), x);
            }
        }
    }

    /** Rights, what rulings lean on, and the council's hearings. Sets of rulings are bits. */
    private static final class Court {
        final Right[] rights = new Right[RIGHTS];
        int count;
        final long[] leans = new long[RIGHTS];
        /** Of appeals: the day of the hearing, or NOT_ANY. */
        final int[] heardOn = new int[RIGHTS];
        long overruled;
        int termDays = 30;
        int step = 7;

        void copyFrom(Court other) {
            System.arraycopy(other.rights, 0, rights, 0, RIGHTS);
            count = other.count;
            copyRow(other.leans, leans);
            copyRow(other.heardOn, heardOn);
            overruled = other.overruled;
            termDays = other.termDays;
            step = other.step;
        }

        boolean isFull() {
            return count >= RIGHTS;
        }

        int grant(Right made) {
            if (count >= RIGHTS) {
                return FULL;
            }
            rights[count] = made;
            leans[count] = 0;
            heardOn[count] = NOT_ANY;
            count++;
            return count - 1;
        }

        Right find(int number) {
            return number >= 0 && number < count ? rights[number] : null;
        }

        boolean isRuling(int number) {
            Right right = find(number);
            return right != null && right.kind == RULING;
        }

        boolean letsByRuling(int number) {
            Right right = find(number);
            return right != null && right.n == LET_N;
        }

        long rulings() {
            long found = 0;
            for (int i = 0; i < count; i++) {
                if (isRuling(i)) {
                    found |= 1L << i;
                }
            }
            return found;
        }

        /** These rulings, and all that lean on them through however many others. */
        long leaningOn(long these) {
            long found = these;
            boolean grew = found != 0;
            for (int round = 0; round < RIGHTS && grew; round++) {
                grew = false;
                for (int i = 0; i < count; i++) {
                    if (!hasBit(found, i) && (leans[i] & found) != 0) {
                        found |= 1L << i;
                        grew = true;
                    }
                }
            }
            return found;
        }

        long fallen() {
            return leaningOn(overruled);
        }

        long heldUp() {
            long waiting = 0;
            for (int i = 0; i < count; i++) {
                Right right = rights[i];
                if (right != null && right.kind == APPEAL && heardOn[i] == NOT_ANY) {
                    waiting |= 1L << right.ruling;
                }
            }
            return leaningOn(waiting);
        }

        long standing() {
            return rulings() & ~fallen() & ~heldUp();
        }

        /** The greatest of these rulings that is about a cell, or -1. */
        int lastAbout(int cell, long these) {
            for (int i = count - 1; i >= 0 && these != 0; i--) {
                Right right = rights[i];
                if (hasBit(these, i) && right != null && right.cell == cell) {
                    return i;
                }
            }
            return -1;
        }

        boolean takesAppeal(int ruling, int side, int today) {
            Right right = find(ruling);
            if (right == null || hasBit(fallen(), ruling) || today - right.day > termDays) {
                return false;
            }
            for (int i = 0; i < count; i++) {
                Right other = rights[i];
                if (other != null && other.kind == APPEAL && other.ruling == ruling && other.side == side) {
                    return false;
                }
            }
            return true;
        }

        int lodge(int ruling, int side, int share) {
            Right made = new Right(APPEAL, count, side, letsByRuling(ruling) ? LET_N : NOT_LET_N);
            made.ruling = ruling;
            made.share = share;
            return grant(made);
        }

        /** The council sits if it is its day. Appeals are numbered as their days go, so the least is the oldest. */
        void sit(int today) {
            if (step <= 0 || today % step != 0) {
                return;
            }
            for (int i = 0; i < count; i++) {
                Right right = rights[i];
                if (right != null && right.kind == APPEAL && heardOn[i] == NOT_ANY) {
                    heardOn[i] = today;
                    if (right.overrules()) {
                        overruled |= 1L << right.ruling;
                    }
                    return;
                }
            }
        }

        /** Writes the least of the shortest rings into a row: how many rulings it has. */
        int findRing(int[] row) {
            int size = 0;
            int start = 0;
            for (int i = 0; i < count; i++) {
                int round = roundFrom(i);
                if (round > 0 && (size == 0 || round < size)) {
                    size = round;
                    start = i;
                }
            }
            int at = start;
            for (int i = 0; i < size && i < row.length; i++) {
                row[i] = at;
                at = leastOnward(at, start, size - i - 1);
            }
            return size;
        }

        /** The fewest leans by which a ruling comes round to itself; 0: it doesn't. */
        private int roundFrom(int start) {
            long reached = 0;
            long last = 1L << start;
            for (int leaps = 1; leaps <= RIGHTS && last != 0; leaps++) {
                last = leanedOnBy(last) & ~reached;
                if (hasBit(last, start)) {
                    return leaps;
                }
                reached |= last;
            }
            return 0;
        }

        private long leanedOnBy(long these) {
            long found = 0;
            for (int i = 0; i < count; i++) {
                if (hasBit(these, i)) {
                    found |= leans[i];
                }
            }
            return found;
        }

        /** The least one on which a ruling leans and from which so many leans lead to the goal. */
        private int leastOnward(int from, int goal, int leaps) {
            long near = 1L << goal;
            for (int i = 0; i < leaps; i++) {
                near = directlyLeaningOn(near);
            }
            long good = leans[from] & near;
            return good == 0 ? goal : leastBit(good);
        }

        private long directlyLeaningOn(long these) {
            long found = 0;
            for (int i = 0; i < count; i++) {
                if ((leans[i] & these) != 0) {
                    found |= 1L << i;
                }
            }
            return found;
        }
    }

    /** Ships, goods and coin; firms and quotas. */
    private static final class Port {
        final int[] shipGoods = new int[SHIPS];
        final int[] aboard = new int[SHIPS];
        /** A spot, or ROADS, GONE, SEIZED. */
        final int[] places = new int[SHIPS];
        int shipCount;
        final int[] bond = new int[GOODS];
        final int[] sold = new int[GOODS];
        final int[] passed = new int[GOODS];
        final int[] tariffs = new int[GOODS];
        final int[] parts = new int[SIDES];
        final int[] purses = new int[SIDES];
        int chest;
        final int[] firmSides = new int[FIRMS];
        final int[] owners = new int[FIRMS];
        int firmCount;
        final int[] useFirms = new int[USES];
        final int[] useTons = new int[USES];
        int useCount;
        final int[] quotas = new int[SIDES];

        Port() {
            Arrays.fill(tariffs, 10);
            Arrays.fill(parts, 1);
        }

        void copyFrom(Port other) {
            copyRow(other.shipGoods, shipGoods);
            copyRow(other.aboard, aboard);
            copyRow(other.places, places);
            shipCount = other.shipCount;
            copyRow(other.bond, bond);
            copyRow(other.sold, sold);
            copyRow(other.passed, passed);
            copyRow(other.tariffs, tariffs);
            copyRow(other.parts, parts);
            copyRow(other.purses, purses);
            chest = other.chest;
            copyRow(other.firmSides, firmSides);
            copyRow(other.owners, owners);
            firmCount = other.firmCount;
            copyRow(other.useFirms, useFirms);
            copyRow(other.useTons, useTons);
            useCount = other.useCount;
            copyRow(other.quotas, quotas);
        }

        boolean isShip(int number) {
            return isWithin(number, 0, shipCount - 1);
        }

        boolean hasShipAt(int spot) {
            for (int i = 0; i < shipCount; i++) {
                if (places[i] == spot) {
                    return true;
                }
            }
            return false;
        }

        int addShip(int good, int tons) {
            shipGoods[shipCount] = good;
            aboard[shipCount] = tons;
            places[shipCount] = ROADS;
            shipCount++;
            return shipCount - 1;
        }

        int land(int ship, int n) {
            int good = shipGoods[ship];
            aboard[ship] -= n;
            bond[good] += n;
            return bond[good];
        }

        void release(int good, int n, boolean through) {
            bond[good] -= n;
            if (through) {
                passed[good] += n;
            } else {
                sold[good] += n;
                chest += n * tariffs[good];
            }
        }

        /** Parts the chest whole among the purses: what it had. */
        int shareOut() {
            int had = chest;
            int over = had;
            for (int side = 0; side < SIDES; side++) {
                over -= cut(side);
            }
            for (int side = 0; side < SIDES; side++) {
                purses[side] += cut(side) + asInt(aheadOf(side) < over);
            }
            chest = 0;
            return had;
        }

        private int allParts() {
            int sum = 0;
            for (int side = 0; side < SIDES; side++) {
                sum += parts[side];
            }
            return sum;
        }

        private int cut(int side) {
            int all = allParts();
            return all > 0 ? chest * parts[side] / all : chest / SIDES;
        }

        private int remainder(int side) {
            int all = allParts();
            return all > 0 ? chest * parts[side] % all : chest % SIDES;
        }

        /** How many sides come to one coin more before this one does. */
        private int aheadOf(int side) {
            int ahead = 0;
            for (int other = 0; other < SIDES; other++) {
                int more = remainder(other) - remainder(side);
                if (more > 0 || more == 0 && other < side) {
                    ahead++;
                }
            }
            return ahead;
        }

        boolean isFirm(int number) {
            return isWithin(number, 0, firmCount - 1);
        }

        int addFirm(int side, int owner) {
            firmSides[firmCount] = side;
            owners[firmCount] = owner;
            firmCount++;
            return firmCount - 1;
        }

        int addUse(int firm, int n) {
            useFirms[useCount] = firm;
            useTons[useCount] = n;
            useCount++;
            return useCount;
        }

        int useOf(int firm) {
            int sum = 0;
            for (int i = 0; i < useCount; i++) {
                if (belongsTo(useFirms[i], firm)) {
                    sum += useTons[i];
                }
            }
            return sum;
        }

        private boolean belongsTo(int firm, int master) {
            int at = firm;
            for (int i = 0; i < FIRMS && at >= 0; i++) {
                if (at == master) {
                    return true;
                }
                at = owners[at];
            }
            return false;
        }

        int quotaLeft(int side) {
            int rest = quotas[side];
            for (int i = 0; i < useCount; i++) {
                if (firmSides[useFirms[i]] == side) {
                    rest -= useTons[i];
                }
            }
            return rest;
        }

        int firstBeyondQuota(int side) {
            int rest = quotas[side];
            for (int i = 0; i < useCount; i++) {
                if (firmSides[useFirms[i]] == side) {
                    rest -= useTons[i];
                    if (rest < 0) {
                        return i;
                    }
                }
            }
            return NOT_ANY;
        }
    }

    /** Doors painted by night and persons seen. */
    private static final class Night {
        final int[] doorSpots = new int[DOORS];
        final int[] firstHours = new int[DOORS];
        final int[] lastHours = new int[DOORS];
        int doorCount;
        /** For each person and hour the spot where it was seen, or -1. */
        final int[] sights = new int[PERSONS * HOURS];
        /** For each set of doors that one may have painted by now: the spots (bits) where it may be. Not kept between calls. */
        private final int[] whereabouts = new int[DOOR_SETS];

        Night() {
            Arrays.fill(sights, -1);
        }

        void copyFrom(Night other) {
            copyRow(other.doorSpots, doorSpots);
            copyRow(other.firstHours, firstHours);
            copyRow(other.lastHours, lastHours);
            doorCount = other.doorCount;
            copyRow(other.sights, sights);
        }

        int addDoor(int spot, int from, int to) {
            doorSpots[doorCount] = spot;
            firstHours[doorCount] = from;
            lastHours[doorCount] = to;
            doorCount++;
            return doorCount - 1;
        }

        boolean isPainted(int spot) {
            for (int i = 0; i < doorCount; i++) {
                if (doorSpots[i] == spot) {
                    return true;
                }
            }
            return false;
        }

        int allDoors() {
            return (1 << doorCount) - 1;
        }

        int sightCount(int person) {
            int sum = 0;
            for (int hour = 0; hour < HOURS; hour++) {
                if (sights[person * HOURS + hour] >= 0) {
                    sum++;
                }
            }
            return sum;
        }

        boolean couldPaint(int person, int set, int open) {
            roam(person, set, open);
            return whereabouts[set] != 0;
        }

        /** The least of the greatest sets that a person could have painted. */
        int mostPainted(int person, int open) {
            int all = allDoors();
            roam(person, all, open);
            int most = 0;
            for (int set = 1; set <= all; set++) {
                if (whereabouts[set] != 0 && Integer.bitCount(set) > Integer.bitCount(most)) {
                    most = set;
                }
            }
            return most;
        }

        /** Follows a person through all hours, with every set of the doors in one set. */
        private void roam(int person, int doors, int open) {
            Arrays.fill(whereabouts, 0);
            whereabouts[0] = open;
            for (int hour = 0; hour < HOURS; hour++) {
                int sight = sights[person * HOURS + hour];
                int may = sight < 0 ? open : open & 1 << sight;
                for (int set = 0; set <= doors; set++) {
                    whereabouts[set] = withBeside(whereabouts[set]) & may;
                }
                // Downwards: the smaller sets must be as they were ahead of this hour's painting.
                for (int set = doors; set > 0; set--) {
                    if ((set & ~doors) == 0) {
                        whereabouts[set] |= paintingLast(set, hour);
                    }
                }
            }
        }

        /** The spots where a set of doors is complete by the one painted in an hour. */
        private int paintingLast(int set, int hour) {
            int spots = 0;
            for (int door = 0; door < doorCount; door++) {
                boolean inSet = (set >> door & 1) != 0;
                if (inSet && firstHours[door] <= hour && hour <= lastHours[door]) {
                    spots |= whereabouts[set ^ 1 << door] & 1 << doorSpots[door];
                }
            }
            return spots;
        }
    }

    /** Votes, and things said. */
    private static final class Hall {
        final int[] votes = new int[LISTS];
        final int[] sayingDays = new int[SAYINGS];
        /** For each saying the things (bits) of which one being so, or one not being so, makes it true. */
        final int[] saidSo = new int[SAYINGS];
        final int[] saidNot = new int[SAYINGS];
        int sayingCount;

        void copyFrom(Hall other) {
            copyRow(other.votes, votes);
            copyRow(other.sayingDays, sayingDays);
            copyRow(other.saidSo, saidSo);
            copyRow(other.saidNot, saidNot);
            sayingCount = other.sayingCount;
        }

        void allot(int n, int[] seats) {
            Arrays.fill(seats, 0);
            for (int i = 0; i < n; i++) {
                int next = nextList(seats);
                if (votes[next] > 0) {
                    seats[next]++;
                }
            }
        }

        private int nextList(int[] seats) {
            int next = 0;
            for (int list = 1; list < LISTS; list++) {
                // Crosswise, since the shares themselves would have to be cut.
                if (votes[list] * (seats[next] + 1) > votes[next] * (seats[list] + 1)) {
                    next = list;
                }
            }
            return next;
        }

        int addSaying(int day, int yes, int no) {
            sayingDays[sayingCount] = day;
            saidSo[sayingCount] = yes;
            saidNot[sayingCount] = no;
            sayingCount++;
            return sayingCount;
        }

        int trueSayings(int day, int things) {
            int sum = 0;
            for (int i = 0; i < sayingCount; i++) {
                if (sayingDays[i] <= day && (things & saidSo[i] | ~things & saidNot[i]) != 0) {
                    sum++;
                }
            }
            return sum;
        }

        int bestThings(int day) {
            int best = 0;
            int most = trueSayings(day, 0);
            for (int things = 1; things < 1 << THINGS; things++) {
                int sum = trueSayings(day, things);
                if (sum > most) {
                    best = things;
                    most = sum;
                }
            }
            return best;
        }
    }

    /** Questions and wanted acts. */
    private static final class Bench {
        final int[] cells = new int[QUESTIONS];
        final long[] fallingIfLet = new long[QUESTIONS];
        final long[] fallingIfNot = new long[QUESTIONS];
        int questionCount;
        final int[] wanted = new int[WANTED];
        int wantedCount;

        void copyFrom(Bench other) {
            copyRow(other.cells, cells);
            copyRow(other.fallingIfLet, fallingIfLet);
            copyRow(other.fallingIfNot, fallingIfNot);
            questionCount = other.questionCount;
            copyRow(other.wanted, wanted);
            wantedCount = other.wantedCount;
        }

        int addQuestion(int cell, long withLet, long withNot) {
            cells[questionCount] = cell;
            fallingIfLet[questionCount] = withLet;
            fallingIfNot[questionCount] = withNot;
            questionCount++;
            return questionCount - 1;
        }

        boolean isWanted(int act) {
            for (int i = 0; i < wantedCount; i++) {
                if (wanted[i] == act) {
                    return true;
                }
            }
            return false;
        }

        int addWanted(int act) {
            wanted[wantedCount] = act;
            wantedCount++;
            return wantedCount;
        }

        int allAnswers() {
            return (1 << questionCount) - 1;
        }

        /** The greatest question about a cell, or -1. */
        int questionAbout(int cell) {
            for (int i = questionCount - 1; i >= 0; i--) {
                if (cells[i] == cell) {
                    return i;
                }
            }
            return -1;
        }

        long namedBy(int answers) {
            long named = 0;
            for (int i = 0; i < questionCount; i++) {
                named |= (answers >> i & 1) != 0 ? fallingIfLet[i] : fallingIfNot[i];
            }
            return named;
        }
    }
}
