import java.util.Random;

/** Texts made by the document's grammar, some of them spoilt. */
final class Texts {
    static String some(Random random) {
        StringBuilder text = new StringBuilder();
        int clauses = random.nextInt(12) == 0 ? 7 + random.nextInt(3) : 1 + random.nextInt(3);
        int deep = random.nextInt(9);
        for (int i = 0; i < clauses; i++) {
            text.append(i > 0 ? ";" : "").append(random.nextInt(3) == 0 ? "bar " : "let ");
            either(random, text, clauses > 6 ? 0 : deep);
        }
        if (random.nextInt(3) == 0) {
            spoil(random, text);
        }
        return text.substring(0, Math.min(120, text.length()));
    }

    private static void either(Random random, StringBuilder text, int deep) {
        both(random, text, deep);
        if (deep > 0 && random.nextInt(3) == 0) {
            text.append('|');
            either(random, text, deep - 1);
        }
    }

    private static void both(Random random, StringBuilder text, int deep) {
        fact(random, text, deep);
        if (deep > 0 && random.nextInt(3) == 0) {
            text.append('&');
            both(random, text, deep - 1);
        }
    }

    private static void fact(Random random, StringBuilder text, int deep) {
        int pick = random.nextInt(deep > 0 ? 10 : 6);
        if (pick >= 8) {
            text.append('!');
            fact(random, text, deep - 1);
        } else if (pick >= 6) {
            text.append('(');
            either(random, text, deep - 1);
            text.append(')');
        } else {
            int[] most = {3, 6, 5, 30, 26, 26};
            String[] starts = {"s=", "g=", "m=", "p=", "h<", "h>"};
            text.append(starts[pick]).append(random.nextInt(random.nextInt(20) == 0 ? 100 : most[pick]));
        }
    }

    private static void spoil(Random random, StringBuilder text) {
        int at = random.nextInt(text.length());
        String signs = "letbar ;|&!()sgmph=<>0123456789x" + (char) 233 + (char) 0;
        char sign = signs.charAt(random.nextInt(signs.length()));
        switch (random.nextInt(4)) {
            case 0:
                text.setCharAt(at, sign);
                break;
            case 1:
                text.insert(at, sign);
                break;
            case 2:
                text.deleteCharAt(at);
                break;
            default:
                text.setLength(at);
        }
    }

    private Texts() {
    }
}
