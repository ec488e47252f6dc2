import java.lang.reflect.InvocationTargetException;
import java.lang.reflect.Method;
import java.util.ArrayList;
import java.util.Arrays;
import java.util.HashMap;
import java.util.List;
import java.util.Map;
import java.util.Random;
import java.util.Set;

/**
 * Random runs of calls, the same ones each time, on the program and on PlainCity. Of each promise:
 * ordinary arguments mostly, edges and wrong ones at times. An argument to main is the number of runs.
 */
final class RandomRunsTests {
    private static final Set<String> ASKING = Set.of("line", "force", "why", "unlike", "fall", "late", "again", "act",
        "whose", "whole", "left", "who", "night", "sure", "seat", "turn", "hold", "judge", "best", "count");

    /**
     * Each call with the ranges of its arguments. S: one of the run's few spots; B: a boolean; R: bits of rulings;
     * r, h, f: a right, ship, firm that is there; D: a set of doors, Q: of questions; A: an act; TEXT: a text fed.
     */
    private static final String[][] THEMES = {
        {"yard S 0-5", "day 1-9", "TEXT", "TEXT", "TEXT", "text 0-2 0-20", "force 0-3 A 0-60", "force 0-3 A 0-9", "why 0-3 A 0-60",
            "why 0-3 A 0-9", "unlike 0-2 0-2 0-30 0-1", "feed W 1-8", "rule S 0-4 B", "tried 0-2 0-2", "want A"},
        {"day 1-50", "day 1-9", "use 1-3 0-2 S 0-4", "quota 4-5 0-2 0-9999", "rule S 0-4 B", "rule S 0-1 B", "rule S 0-1 B",
            "lean r r", "lean r r", "lean r r", "lean r r", "lean r r", "appeal r 0-1 0-100", "appeal r 0-1 45-55",
            "term 1-1 1-20", "term 0-1 0-99", "fall r 0-3", "fall r 0-3", "late r 0-2", "again -1-5", "again -1-2", "act r 0-2 -50-50",
            "act r 0-2 X", "whose r 0-7", "why 3-3 A 0-60", "force 3-3 A 0-60"},
        {"yard S 0-5", "yard S 1-2", "ship 0-3 1-999", "berth h S", "berth h S", "leave h 0-2", "leave h 0-0", "goods h 1-999", "goods h 1-99",
            "goods h 1-99", "coin 0-3 1-999 B", "coin 0-3 1-50 B", "coin 0-3 1-9 B", "tariff 0-1 0-3 0-99", "tariff 1-1 0-2 0-3", "tariff 1-1 0-2 0-0",
            "share", "whole 0-5 0-11", "whole 0-3 0-2"},
        {"quota 5-5 0-2 0-3000", "quota 4-5 0-2 0-9999", "firm 0-2 -1-9", "firm 0-2 f", "firm 0-1 -1--1", "used f 1-999", "used f 1-60", "used f 1-60",
            "left 0-2 0-9", "left 0-0 f", "left 1-2 0-2"},
        {"yard S 0-5", "yard S 4-5", "yard S 4-4", "line S S", "door S 0-23 0-23", "door S 0-9 10-23", "seen 0-7 S 0-23", "seen 0-1 S 0-23", "seen 0-7 S 0-23",
            "who 0-7 D", "who 0-1 D", "who 0-7 0-63", "night 0-7 0-1", "night 0-1 0-1", "sure 0-5", "sure 0-1"},
        {"vote 0-5 0-99999", "vote 0-5 0-12", "seat 0-5 1-60", "seat 0-5 1-9", "turn 1-60 1-60", "turn 1-60 1-9", "say 0-7 0-999 0-7 B -1-7 B",
            "say 0-7 0-9 0-2 B -1-2 B", "hold 0-999 0-1", "hold 0-12 0-1"},
        {"TEXT", "TEXT", "rule S 0-4 B", "rule S 0-1 B", "lean r r", "lean r r", "appeal r 0-1 40-100", "day 1-9", "ask S 0-4 R R", "ask S 0-1 R R", "want A",
            "want A", "judge Q 0-1", "judge Q 0-1", "best", "best", "tried 0-2 0-2", "judge 0-63 0-1", "fall r 0-3"}
    };
    private static final String[] ALWAYS = {"image", "undo", "count 0-10", "count 0-10"};

    private final Random random;
    private final FreeCity city = new FreeCity();
    private PlainCity plain = new PlainCity();
    private List<Object[]> log = new ArrayList<>();
    private List<Object[]> imageLog;
    private final int[] spots = new int[7];
    private final List<String> told = new ArrayList<>();
    private int calls;
    private static final Map<String, Integer> answered = new HashMap<>();

    private RandomRunsTests(long seed) {
        random = new Random(seed);
        int corner = random.nextInt(5) * 6 % 24 + random.nextInt(4);
        for (int i = 0; i < spots.length; i++) {
            spots[i] = random.nextInt(3) == 0 ? random.nextInt(30) : Math.min(29, corner + random.nextInt(3) + 6 * random.nextInt(2));
        }
    }

    public static void main(String[] args) throws Exception {
        int runs = args.length > 0 ? Integer.parseInt(args[0]) : 250;
        Check check = new Check("RandomRunsTests");
        for (int seed = 1; seed <= runs; seed++) {
            new RandomRunsTests(seed).run(check, seed);
        }
        if (args.length > 1) {
            answered.entrySet().stream().sorted(Map.Entry.comparingByKey()).forEach(System.out::println);
        }
        check.end();
    }

    private void run(Check check, int seed) throws Exception {
        List<String> choice = new ArrayList<>(List.of(ALWAYS));
        for (int theme = 0; theme < THEMES.length; theme++) {
            if (seed % 8 == theme || seed % 8 == 7 || random.nextInt(6) == 0) {
                for (String each : THEMES[theme]) {
                    for (int weight = random.nextInt(4) * random.nextInt(4); weight >= 0; weight--) choice.add(each);
                }
            }
        }
        choice.add("undo");
        int slow = 0;
        while (calls < 500) {
            String pick = choice.get(random.nextInt(choice.size()));
            if ((pick.startsWith("unlike") || pick.startsWith("tried")) && slow++ > 12) {
                continue;
            }
            if (pick.equals("undo") && random.nextInt(4) > 0) {
                continue;
            }
            if (pick.equals("TEXT")) {
                feedSome(check, seed);
            } else {
                String[] words = pick.split(" ");
                Object[] call = new Object[words.length];
                call[0] = words[0];
                for (int i = 1; i < words.length; i++) call[i] = argument(words[i]);
                compare(check, seed, call);
            }
        }
    }

    private void feedSome(Check check, int seed) throws Exception {
        String text = Texts.some(random);
        for (int at = 0; at < text.length(); at += 8) {
            int n = Math.min(8, text.length() - at);
            long w = random.nextInt(2) == 0 || n == 8 ? 0 : random.nextLong() << 8 * n;
            for (int i = 0; i < n; i++) w = (w & ~(255L << 8 * (n - 1 - i))) | (long) text.charAt(at + i) << 8 * (n - 1 - i);
            compare(check, seed, "feed", w, n);
        }
        int then = random.nextInt(8);
        if (then > 1) compare(check, seed, "text", random.nextInt(3), random.nextInt(12));
        if (then == 1) compare(check, seed, "tried", random.nextInt(3), random.nextInt(3));
    }

    private Object argument(String range) {
        switch (range) {
            case "B": return random.nextBoolean();
            case "W": return random.nextLong();
            case "X": return random.nextInt();
            case "R": return someRulings();
            case "S": return odd() ? wrong(0, 29) : spots[random.nextInt(spots.length)];
            case "A": return odd() ? wrong(0, 10799) : ((random.nextInt(3) * 30 + spots[random.nextInt(7)]) * 5 + random.nextInt(5)) * 24 + random.nextInt(24);
            case "r": return odd() ? wrong(0, 49) : random.nextInt(Math.max(1, plain.rights.size()));
            case "h": return odd() ? wrong(0, 11) : random.nextInt(Math.max(1, plain.ships.size()));
            case "f": return odd() ? wrong(0, 9) : random.nextInt(Math.max(1, plain.firms.size()));
            case "D": return odd() ? wrong(0, 63) : random.nextInt(1 << plain.doors.size());
            case "Q": return odd() ? wrong(0, 63) : random.nextInt(1 << plain.questions.size());
            default:
        }
        int cut = range.indexOf('-', 1);
        int least = Integer.parseInt(range.substring(0, cut));
        int most = Integer.parseInt(range.substring(cut + 1));
        return odd() ? wrong(least, most) : least + random.nextInt(most - least + 1);
    }

    private boolean odd() {
        return random.nextInt(25) == 0;
    }

    private int wrong(int least, int most) {
        int[] choice = {least - 1, most + 1, least, most, Integer.MIN_VALUE, Integer.MAX_VALUE, random.nextInt(), -1, -5};
        return choice[random.nextInt(choice.length)];
    }

    private long someRulings() {
        long bits = 0;
        for (PlainRights.Right right : plain.rights) {
            if (random.nextInt(4) == 0 && (PlainCity.isRuling(right) || random.nextInt(60) == 0)) bits |= 1L << right.i;
        }
        return random.nextInt(30) == 0 ? bits | 1L << random.nextInt(64) : bits;
    }

    private void compare(Check check, int seed, Object... call) throws Exception {
        if (calls >= 512) return;
        calls++;
        String name = (String) call[0];
        int got = (Integer) invoke(city, FreeCity.class, call);
        int want;
        if (name.equals("image")) {
            imageLog = new ArrayList<>(log);
            want = plain.today;
        } else if (name.equals("undo")) {
            want = imageLog == null ? -3 : replay();
        } else {
            want = (Integer) invoke(plain, PlainCity.class, call);
            if (!ASKING.contains(name)) log.add(call);
        }
        answered.merge(name + " " + (want > -7 && want < 0 ? want : want < 0 ? "-.." : want == 0 ? "0" : "+"), 1, Integer::sum);
        told.add(Arrays.toString(call) + " -> " + want);
        check.due("run " + seed + " call " + calls + " " + Arrays.toString(call), got, want);
        if (got != want) {
            System.out.println(told.subList(Math.max(0, told.size() - 12), told.size()));
            calls = 512;
        }
    }

    private int replay() throws Exception {
        plain = new PlainCity();
        log = new ArrayList<>(imageLog);
        for (Object[] call : log) {
            if (call[0].equals("tried")) {
                // Tried anew it would only take time: all that it changes is the tape.
                if (PlainCity.in((Integer) call[1], 0, 2) && PlainCity.in((Integer) call[2], 0, 2)) plain.tape.setLength(0);
            } else {
                invoke(plain, PlainCity.class, call);
            }
        }
        return plain.today;
    }

    private static final Map<String, Method> METHODS = new HashMap<>();

    private static Object invoke(Object on, Class<?> type, Object[] call) throws Exception {
        Method method = METHODS.get(type.getName() + call[0]);
        if (method == null) {
            for (Method each : type.getDeclaredMethods()) {
                if (each.getName().equals(call[0]) && each.getParameterCount() == call.length - 1) method = each;
            }
            METHODS.put(type.getName() + call[0], method);
        }
        try {
            return method.invoke(on, Arrays.copyOfRange(call, 1, call.length));
        } catch (InvocationTargetException e) {
            throw new IllegalStateException(Arrays.toString(call), e.getCause());
        }
    }
}
