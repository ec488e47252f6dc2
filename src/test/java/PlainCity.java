import java.util.ArrayList;
import java.util.HashMap;
import java.util.HashSet;
import java.util.List;
import java.util.Map;
import java.util.Set;
import java.util.TreeMap;
import java.util.TreeSet;

/**
 * The document written down a second time, as slowly and as plainly as it goes, by other ways than
 * the program's: the random runs hold the program against it. It has no image; the runs make that
 * by calling again what was called.
 */
final class PlainCity {
    static final int NONE = -1, BAD = -2, STATE = -3, FULL = -4;

    final int[] ground = new int[30];
    int today;
    StringBuilder tape = new StringBuilder();
    final List<PlainText> texts = new ArrayList<>();
    final List<PlainRights.Right> rights = new ArrayList<>();
    final Map<Integer, TreeSet<Integer>> leans = new HashMap<>();
    final Set<Integer> overruled = new HashSet<>();
    final Map<Integer, Integer> heard = new HashMap<>();
    int term = 30;
    int step = 7;
    final List<int[]> ships = new ArrayList<>(); // good, tons, place
    final int[] bond = new int[4], sold = new int[4], through = new int[4], tariff = {10, 10, 10, 10};
    final int[] part = {1, 1, 1}, purse = new int[3], quota = new int[3];
    int chest;
    final List<int[]> firms = new ArrayList<>(); // side, owner
    final List<int[]> uses = new ArrayList<>(); // firm, n
    final List<int[]> doors = new ArrayList<>(); // spot, from, to
    final List<TreeMap<Integer, Integer>> sights = new ArrayList<>();
    final int[] votes = new int[6];
    final List<int[]> sayings = new ArrayList<>(); // day, first, so, second, also
    final List<long[]> questions = new ArrayList<>(); // spot, matter, withLet, withNot
    final List<Integer> wanted = new ArrayList<>();

    PlainCity() {
        for (int i = 0; i < 8; i++) {
            sights.add(new TreeMap<>());
        }
    }

    static boolean in(int n, int least, int most) {
        return least <= n && n <= most;
    }

    // ---- ground, texts

    int yard(int spot, int g) {
        if (!in(spot, 0, 29)) return NONE;
        if (!in(g, 0, 5)) return BAD;
        for (int[] ship : ships) if (ship[2] == spot) return STATE;
        for (int[] door : doors) if (door[0] == spot) return STATE;
        int was = ground[spot];
        ground[spot] = g;
        return was;
    }

    static boolean beside(int a, int b) {
        return Math.abs(a % 6 - b % 6) + Math.abs(a / 6 - b / 6) == 1;
    }

    int line(int a, int b) {
        if (!in(a, 0, 29) || !in(b, 0, 29)) return NONE;
        int[][] far = new int[30][30];
        for (int i = 0; i < 30; i++) {
            for (int j = 0; j < 30; j++) {
                boolean step = beside(i, j) && ground[i] != 5 && ground[j] != 5;
                far[i][j] = i == j ? 0 : step ? 1 : 99;
            }
        }
        for (int k = 0; k < 30; k++) {
            for (int i = 0; i < 30; i++) {
                for (int j = 0; j < 30; j++) {
                    far[i][j] = Math.min(far[i][j], far[i][k] + far[k][j]);
                }
            }
        }
        return far[a][b];
    }

    int day(int n) {
        if (!in(n, 1, 50) || today + n > 999) return BAD;
        for (int i = 0; i < n; i++) {
            if (today % step == 0) {
                PlainRights.Appeal next = null;
                for (PlainRights.Right right : rights) {
                    if (right instanceof PlainRights.Appeal a && !heard.containsKey(a.i)) {
                        if (next == null || a.day < next.day) next = a;
                    }
                }
                if (next != null) {
                    heard.put(next.i, today);
                    if (next.share > 50) overruled.add(next.of.i);
                }
            }
            today++;
        }
        return today;
    }

    int feed(long w, int n) {
        if (!in(n, 1, 8)) return BAD;
        if (tape.length() + n > 120) return FULL;
        for (int i = 0; i < n; i++) {
            tape.append((char) (w >>> 8 * (n - 1 - i) & 255));
        }
        return tape.length();
    }

    int text(int tongue, int day) {
        if (!in(tongue, 0, 2)) return NONE;
        if (!in(day, 0, 999)) return BAD;
        if (texts.size() >= 15) return FULL;
        String whole = tape.toString();
        tape = new StringBuilder();
        int fault = PlainText.fault(whole);
        if (fault >= 0) return -10 - fault;
        texts.add(new PlainText(texts.size(), tongue, day, whole));
        return texts.size() - 1;
    }

    PlainText rules(int tongue, int day) {
        PlainText best = null;
        for (PlainText each : texts) {
            if (each.tongue == tongue && each.day <= day && (best == null || each.day >= best.day)) best = each;
        }
        return best;
    }

    int clause(int tongue, int act, int day) {
        PlainText text = rules(tongue, day);
        return text == null ? -1 : text.lastClause(act, ground);
    }

    boolean letBy(int tongue, int act, int day) {
        int clause = clause(tongue, act, day);
        return clause >= 0 && rules(tongue, day).clauses[clause].startsWith("let");
    }

    PlainRights.Ruling rulingOn(int act) {
        int spot = act / 24 / 5 % 30;
        int matter = act / 24 % 5;
        PlainRights.Ruling last = null;
        for (PlainRights.Right right : rights) {
            if (isRuling(right) && ((PlainRights.Ruling) right).spot == spot
                && ((PlainRights.Ruling) right).matter == matter && isStanding(right.i)) {
                last = (PlainRights.Ruling) right;
            }
        }
        return last;
    }

    boolean letByCity(int act, int day) {
        PlainRights.Ruling ruling = rulingOn(act);
        if (ruling != null) return ruling.let;
        int by = 0;
        for (int tongue = 0; tongue < 3; tongue++) {
            if (letBy(tongue, act, day)) by++;
        }
        return by >= 2;
    }

    int force(int tongue, int act, int day) {
        if (!in(tongue, 0, 3)) return NONE;
        if (!in(act, 0, 10799) || !in(day, 0, 999)) return BAD;
        return (tongue == 3 ? letByCity(act, day) : letBy(tongue, act, day)) ? 1 : 0;
    }

    int why(int tongue, int act, int day) {
        if (!in(tongue, 0, 3)) return NONE;
        if (!in(act, 0, 10799) || !in(day, 0, 999)) return BAD;
        if (tongue == 3) {
            PlainRights.Ruling ruling = rulingOn(act);
            return ruling == null ? -5 : 10000 + ruling.i;
        }
        int clause = clause(tongue, act, day);
        return clause < 0 ? -5 : rules(tongue, day).number * 100 + clause;
    }

    int unlike(int a, int b, int day, int what) {
        if (!in(a, 0, 2) || !in(b, 0, 2) || !in(what, 0, 1)) return NONE;
        if (a == b || !in(day, 0, 999)) return BAD;
        int sum = 0;
        int least = -5;
        for (int act = 10799; act >= 0; act--) {
            if (letBy(a, act, day) != letBy(b, act, day)) {
                sum++;
                least = act;
            }
        }
        return what == 0 ? sum : least;
    }

    // ---- rights, rulings

    static boolean isRuling(PlainRights.Right right) {
        return right != null && right.getClass() == PlainRights.Ruling.class;
    }

    PlainRights.Right right(int i) {
        return in(i, 0, rights.size() - 1) ? rights.get(i) : null;
    }

    int grant(PlainRights.Right right) {
        rights.add(right);
        return rights.size() - 1;
    }

    int use(int kind, int side, int spot, int matter) {
        if (!in(kind, 1, 3) || !in(side, 0, 2) || !in(spot, 0, 29) || !in(matter, 0, 4)) return NONE;
        if (rights.size() >= 50) return FULL;
        int i = rights.size();
        int n = spot + matter;
        return grant(kind == 1 ? new PlainRights.Use(i, side, n)
            : kind == 2 ? new PlainRights.Rail(i, side, n) : new PlainRights.Post(i, side, n));
    }

    int quota(int kind, int side, int n) {
        if (!in(kind, 4, 5) || !in(side, 0, 2)) return NONE;
        if (!in(n, 0, 9999)) return BAD;
        if (rights.size() >= 50) return FULL;
        int i = rights.size();
        if (kind == 5) quota[side] = n;
        return grant(kind == 4 ? new PlainRights.Customs(i, side, n) : new PlainRights.Quota(i, side, n));
    }

    int rule(int spot, int matter, boolean let) {
        if (!in(spot, 0, 29) || !in(matter, 0, 4)) return NONE;
        if (rights.size() >= 50) return FULL;
        PlainRights.Ruling made = new PlainRights.Ruling(rights.size(), 2, let ? 10 : 20);
        made.spot = spot;
        made.matter = matter;
        made.let = let;
        made.day = today;
        return grant(made);
    }

    TreeSet<Integer> leansOf(int ruling) {
        return leans.computeIfAbsent(ruling, k -> new TreeSet<>());
    }

    int lean(int ruling, int on) {
        if (!isRuling(right(ruling)) || !isRuling(right(on))) return NONE;
        if (ruling == on) return BAD;
        if (!leansOf(ruling).add(on)) return STATE;
        return leansOf(ruling).size();
    }

    /** All on which it leans, by however many others, and itself. */
    Set<Integer> grounds(int ruling) {
        Set<Integer> found = new HashSet<>();
        collect(ruling, found);
        return found;
    }

    private void collect(int ruling, Set<Integer> found) {
        if (found.add(ruling)) {
            for (int on : leansOf(ruling)) collect(on, found);
        }
    }

    boolean isFallen(int ruling) {
        for (int on : grounds(ruling)) if (overruled.contains(on)) return true;
        return false;
    }

    boolean isHeldUp(int ruling) {
        for (int on : grounds(ruling)) {
            for (PlainRights.Right right : rights) {
                if (right instanceof PlainRights.Appeal a && a.of.i == on && !heard.containsKey(a.i)) return true;
            }
        }
        return false;
    }

    boolean isStanding(int ruling) {
        return !isFallen(ruling) && !isHeldUp(ruling);
    }

    int appeal(int ruling, int side, int share) {
        if (!isRuling(right(ruling)) || !in(side, 0, 1)) return NONE;
        if (!in(share, 0, 100)) return BAD;
        PlainRights.Ruling of = (PlainRights.Ruling) right(ruling);
        if (isFallen(ruling) || today > of.day + term) return STATE;
        for (PlainRights.Right right : rights) {
            if (right instanceof PlainRights.Appeal a && a.of == of && a.d == side) return STATE;
        }
        if (rights.size() >= 50) return FULL;
        PlainRights.Appeal made = new PlainRights.Appeal(rights.size(), side, of.n);
        made.of = of;
        made.share = share;
        made.day = today;
        return grant(made);
    }

    int term(int what, int n) {
        if (what == 0) {
            if (!in(n, 0, 99)) return BAD;
            int was = term;
            term = n;
            return was;
        }
        if (what == 1) {
            if (!in(n, 1, 20)) return BAD;
            int was = step;
            step = n;
            return was;
        }
        return NONE;
    }

    int fall(int ruling, int what) {
        if (!isRuling(right(ruling)) || !in(what, 0, 3)) return NONE;
        if (what == 0) return isFallen(ruling) ? 1 : 0;
        if (what == 1) return isHeldUp(ruling) ? 1 : 0;
        if (what == 2) return isStanding(ruling) ? 1 : 0;
        int sum = 0;
        for (PlainRights.Right right : rights) {
            if (isRuling(right) && !isFallen(right.i) && grounds(right.i).contains(ruling)) sum++;
        }
        return sum;
    }

    int late(int appeal, int what) {
        if (!(right(appeal) instanceof PlainRights.Appeal a) || !in(what, 0, 2)) return NONE;
        if (what == 0) return heard.containsKey(appeal) ? 1 : 0;
        if (what == 1) return heard.getOrDefault(appeal, -5);
        return heard.containsKey(appeal) && a.share > 50 ? 1 : 0;
    }

    /** Rings by length, then by rows in their order: the first one that closes. */
    List<Integer> ring() {
        for (int size = 2; size <= rights.size(); size++) {
            for (int start = 0; start < rights.size(); start++) {
                List<Integer> row = new ArrayList<>();
                row.add(start);
                if (closes(row, size)) return row;
            }
        }
        return new ArrayList<>();
    }

    private boolean closes(List<Integer> row, int size) {
        int last = row.get(row.size() - 1);
        if (row.size() == size) return leansOf(last).contains(row.get(0));
        for (int on : leansOf(last)) {
            if (on > row.get(0) && !row.contains(on)) {
                row.add(on);
                if (closes(row, size)) return true;
                row.remove(row.size() - 1);
            }
        }
        return false;
    }

    int again(int i) {
        List<Integer> ring = ring();
        if (i == -1) return ring.size();
        return in(i, 0, ring.size() - 1) ? ring.get(i) : NONE;
    }

    int act(int right, int act, int x) {
        PlainRights.Right found = right(right);
        if (found == null || !in(act, 0, 2)) return 0;
        return act == 0 ? found.binds(x) : act == 1 ? found.gives(x) : found.hangs(x);
    }

    int whose(int right, int k) {
        PlainRights.Right found = right(right);
        if (found == null || !in(k, 0, 7)) return NONE;
        return PlainRights.KINDS[k].isInstance(found) ? found.n : -6;
    }

    // ---- ships, goods, coin

    int ship(int good, int tons) {
        if (!in(good, 0, 3)) return NONE;
        if (!in(tons, 1, 999)) return BAD;
        if (ships.size() >= 12) return FULL;
        ships.add(new int[] {good, tons, -2});
        return ships.size() - 1;
    }

    int berth(int ship, int spot) {
        if (!in(ship, 0, ships.size() - 1) || !in(spot, 0, 29)) return NONE;
        if (ground[spot] != 1 && ground[spot] != 2) return STATE;
        for (int[] other : ships) if (other[2] == spot) return STATE;
        if (ships.get(ship)[2] != -2) return STATE;
        ships.get(ship)[2] = spot;
        return 1;
    }

    int leave(int ship, int how) {
        if (!in(ship, 0, ships.size() - 1) || !in(how, 0, 2)) return NONE;
        int[] it = ships.get(ship);
        if (it[2] == -3 || it[2] == -4) return STATE;
        if (how == 0 && it[2] == -2) return STATE;
        it[2] = how == 0 ? -2 : how == 1 ? -3 : -4;
        return it[1];
    }

    int goods(int ship, int n) {
        if (!in(ship, 0, ships.size() - 1)) return NONE;
        if (!in(n, 1, 999)) return BAD;
        int[] it = ships.get(ship);
        if (it[2] < 0 || it[1] < n) return STATE;
        it[1] -= n;
        return bond[it[0]] += n;
    }

    int coin(int good, int n, boolean goesThrough) {
        if (!in(good, 0, 3)) return NONE;
        if (!in(n, 1, 999)) return BAD;
        if (bond[good] < n) return STATE;
        bond[good] -= n;
        if (goesThrough) {
            through[good] += n;
        } else {
            sold[good] += n;
            chest += n * tariff[good];
        }
        return chest;
    }

    int tariff(int what, int which, int n) {
        if (!in(what, 0, 1) || !in(which, 0, what == 0 ? 3 : 2)) return NONE;
        if (!in(n, 0, 99)) return BAD;
        int was;
        if (what == 0) {
            was = tariff[which];
            tariff[which] = n;
        } else {
            was = part[which];
            part[which] = n;
        }
        return was;
    }

    int share() {
        int had = chest;
        int all = part[0] + part[1] + part[2];
        long[] weight = new long[3];
        long sum = all == 0 ? 3 : all;
        List<Integer> order = new ArrayList<>(List.of(0, 1, 2));
        long given = 0;
        for (int side = 0; side < 3; side++) {
            weight[side] = (long) had * (all == 0 ? 1 : part[side]);
            purse[side] += (int) (weight[side] / sum);
            given += weight[side] / sum;
        }
        order.sort((a, b) -> Long.compare(weight[b] % sum, weight[a] % sum));
        for (int i = 0; given < had; i++) {
            purse[order.get(i)]++;
            given++;
        }
        chest = 0;
        return had;
    }

    int whole(int what, int which) {
        if (what == 0 && in(which, 0, 2)) return purse[which];
        if (what == 1 && in(which, 0, 3)) return bond[which];
        if (what == 2 && in(which, 0, 3)) return sold[which];
        if (what == 3 && in(which, 0, 3)) return through[which];
        if (in(what, 4, 5) && in(which, 0, ships.size() - 1)) return ships.get(which)[what - 3];
        return -5;
    }

    int firm(int side, int owner) {
        if (!in(side, 0, 2) || !in(owner, -1, firms.size() - 1)) return NONE;
        if (firms.size() >= 10) return FULL;
        firms.add(new int[] {side, owner});
        return firms.size() - 1;
    }

    int used(int firm, int n) {
        if (!in(firm, 0, firms.size() - 1)) return NONE;
        if (!in(n, 1, 999)) return BAD;
        if (uses.size() >= 40) return FULL;
        uses.add(new int[] {firm, n});
        return uses.size();
    }

    private int useOf(int firm) {
        int sum = 0;
        for (int[] use : uses) if (use[0] == firm) sum += use[1];
        for (int other = 0; other < firms.size(); other++) {
            if (firms.get(other)[1] == firm) sum += useOf(other);
        }
        return sum;
    }

    int left(int what, int which) {
        if (what == 0) return in(which, 0, firms.size() - 1) ? useOf(which) : NONE;
        if (!in(what, 1, 2) || !in(which, 0, 2)) return NONE;
        int all = 0;
        for (int i = 0; i < uses.size(); i++) {
            if (firms.get(uses.get(i)[0])[0] == which) {
                all += uses.get(i)[1];
                if (what == 2 && all > quota[which]) return i;
            }
        }
        return what == 1 ? quota[which] - all : -5;
    }

    // ---- doors by night

    int door(int spot, int from, int to) {
        if (!in(spot, 0, 29)) return NONE;
        if (!in(from, 0, 23) || !in(to, from, 23)) return BAD;
        if (ground[spot] != 4) return STATE;
        if (doors.size() >= 6) return FULL;
        doors.add(new int[] {spot, from, to});
        return doors.size() - 1;
    }

    int seen(int person, int spot, int hour) {
        if (!in(person, 0, 7) || !in(spot, 0, 29)) return NONE;
        if (!in(hour, 0, 23)) return BAD;
        TreeMap<Integer, Integer> its = sights.get(person);
        if (ground[spot] == 5 || its.containsKey(hour) && its.get(hour) != spot) return STATE;
        if (!its.containsKey(hour) && its.size() >= 12) return FULL;
        its.put(hour, spot);
        return its.size();
    }

    /** Walks all ways from a spot at an hour on, but none twice; the walk is done at hour 24. */
    private boolean walk(int person, int hour, int spot, int toPaint, Set<Integer> dead) {
        if (hour == 24) return toPaint == 0;
        int key = (hour * 30 + spot) * 64 + toPaint;
        if (dead.contains(key)) return false;
        Integer sight = sights.get(person).get(hour);
        if (ground[spot] != 5 && (sight == null || sight == spot)) {
            for (int door = -1; door < doors.size(); door++) {
                int rest = toPaint;
                if (door >= 0) {
                    int[] it = doors.get(door);
                    if ((toPaint >> door & 1) == 0 || it[0] != spot || !in(hour, it[1], it[2])) continue;
                    rest = toPaint ^ 1 << door;
                }
                for (int next = 0; next < 30; next++) {
                    if ((next == spot || beside(next, spot)) && walk(person, hour + 1, next, rest, dead)) return true;
                }
            }
        }
        dead.add(key);
        return false;
    }

    private boolean could(int person, int set) {
        Set<Integer> dead = new HashSet<>();
        for (int spot = 0; spot < 30; spot++) {
            if (walk(person, 0, spot, set, dead)) return true;
        }
        return false;
    }

    int who(int person, int set) {
        if (!in(person, 0, 7)) return NONE;
        if (!in(set, 0, (1 << doors.size()) - 1)) return BAD;
        return could(person, set) ? 1 : 0;
    }

    int night(int person, int what) {
        if (!in(person, 0, 7) || !in(what, 0, 1)) return NONE;
        for (int size = doors.size(); size > 0; size--) {
            for (int set = 0; set < 1 << doors.size(); set++) {
                if (Integer.bitCount(set) == size && could(person, set)) return what == 0 ? size : set;
            }
        }
        return 0;
    }

    int sure(int door) {
        if (!in(door, 0, doors.size() - 1)) return NONE;
        List<Integer> all = new ArrayList<>();
        for (int person = 0; person < 8; person++) {
            if (could(person, 1 << door)) all.add(person);
        }
        return all.size() == 1 ? all.get(0) : -5;
    }

    // ---- votes, things said

    int vote(int list, int n) {
        if (!in(list, 0, 5)) return NONE;
        if (!in(n, 0, 99999)) return BAD;
        int were = votes[list];
        votes[list] = n;
        return were;
    }

    /** All shares of all lists put in order; the first n have the seats. */
    private int[] seats(int n) {
        List<int[]> shares = new ArrayList<>();
        for (int list = 0; list < 6; list++) {
            for (int by = 1; by <= n && votes[list] > 0; by++) shares.add(new int[] {list, by});
        }
        shares.sort((a, b) -> {
            int c = Long.compare((long) votes[b[0]] * a[1], (long) votes[a[0]] * b[1]);
            return c != 0 ? c : a[0] != b[0] ? a[0] - b[0] : a[1] - b[1];
        });
        int[] seats = new int[6];
        for (int i = 0; i < n && i < shares.size(); i++) seats[shares.get(i)[0]]++;
        return seats;
    }

    int seat(int list, int n) {
        if (!in(list, 0, 5)) return NONE;
        if (!in(n, 1, 60)) return BAD;
        return seats(n)[list];
    }

    int turn(int n, int k) {
        if (!in(n, 1, 60) || !in(k, 1, 60)) return BAD;
        int[] seats = seats(n);
        for (int size = 1; size <= 6; size++) {
            for (int set = 0; set < 64; set++) {
                int sum = 0;
                for (int list = 0; list < 6; list++) sum += (set >> list & 1) * seats[list];
                if (Integer.bitCount(set) == size && sum >= k) return set;
            }
        }
        return -5;
    }

    int say(int person, int day, int first, boolean so, int second, boolean also) {
        if (!in(person, 0, 7) || !in(first, 0, 7) || !in(second, -1, 7)) return NONE;
        if (!in(day, 0, 999)) return BAD;
        if (sayings.size() >= 20) return FULL;
        sayings.add(new int[] {day, first, so ? 1 : 0, second, also ? 1 : 0});
        return sayings.size();
    }

    int hold(int day, int what) {
        if (!in(what, 0, 1)) return NONE;
        if (!in(day, 0, 999)) return BAD;
        int most = -1;
        int best = -1;
        for (int things = 0; things < 256; things++) {
            int sum = 0;
            for (int[] s : sayings) {
                boolean first = (things >> s[1] & 1) == s[2];
                boolean second = s[3] >= 0 && (things >> s[3] & 1) == s[4];
                if (s[0] <= day && (first || second)) sum++;
            }
            if (sum > most) {
                most = sum;
                best = things;
            }
        }
        return what == 0 ? most : best;
    }

    // ---- answers

    int ask(int spot, int matter, long withLet, long withNot) {
        if (!in(spot, 0, 29) || !in(matter, 0, 4)) return NONE;
        for (int bit = 0; bit < 64; bit++) {
            if (((withLet >>> bit & 1) != 0 || (withNot >>> bit & 1) != 0) && !isRuling(right(bit))) return BAD;
        }
        if (questions.size() >= 6) return FULL;
        questions.add(new long[] {spot, matter, withLet, withNot});
        return questions.size() - 1;
    }

    int want(int act) {
        if (!in(act, 0, 10799)) return BAD;
        if (wanted.contains(act)) return STATE;
        if (wanted.size() >= 10) return FULL;
        wanted.add(act);
        return wanted.size();
    }

    private int met(int answers) {
        int met = 0;
        for (int act : wanted) {
            boolean let = letByCity(act, today);
            for (int q = 0; q < questions.size(); q++) {
                long[] question = questions.get(q);
                if (question[0] == act / 24 / 5 % 30 && question[1] == act / 24 % 5) let = (answers >> q & 1) != 0;
            }
            if (let) met++;
        }
        return met;
    }

    private int falls(int answers) {
        int falls = 0;
        for (PlainRights.Right right : rights) {
            if (!isRuling(right) || !isStanding(right.i)) continue;
            boolean named = false;
            for (int on : grounds(right.i)) {
                for (int q = 0; q < questions.size(); q++) {
                    long bits = questions.get(q)[(answers >> q & 1) != 0 ? 2 : 3];
                    named |= (bits >>> on & 1) != 0;
                }
            }
            if (named) falls++;
        }
        return falls;
    }

    int judge(int answers, int what) {
        if (!in(what, 0, 1)) return NONE;
        if (!in(answers, 0, (1 << questions.size()) - 1)) return BAD;
        return what == 0 ? met(answers) : falls(answers);
    }

    int best() {
        int best = -5;
        for (int answers = (1 << questions.size()) - 1; answers >= 0; answers--) {
            if (met(answers) == wanted.size() && (best == -5 || falls(answers) <= falls(best))) best = answers;
        }
        return best;
    }

    int tried(int tongue, int what) {
        if (!in(tongue, 0, 2) || !in(what, 0, 2)) return NONE;
        String whole = tape.toString();
        tape = new StringBuilder();
        int fault = PlainText.fault(whole);
        if (fault >= 0) return -10 - fault;
        texts.add(new PlainText(texts.size(), tongue, today, whole));
        int sum = 0;
        if (what == 0) sum = unlike(0, 1, today, 0);
        for (int act = 0; act < 10800 && what != 0; act++) {
            if ((what == 1 || wanted.contains(act)) && letByCity(act, today)) sum++;
        }
        texts.remove(texts.size() - 1);
        return sum;
    }

    int count(int what) {
        int[] counts = {texts.size(), rights.size(), today, ships.size(), chest, firms.size(), doors.size(),
            sayings.size(), questions.size(), wanted.size(), tape.length()};
        return in(what, 0, 10) ? counts[what] : NONE;
    }
}
