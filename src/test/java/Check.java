/** Counts the answers that are not the ones due, and prints them. */
final class Check {
    private final String name;
    private int asked;
    private int wrong;

    Check(String name) {
        this.name = name;
    }

    void due(String call, long got, long want) {
        asked++;
        if (got != want) {
            wrong++;
            System.out.println(name + ": " + call + " answered " + got + ", due is " + want);
        }
    }

    void so(String what, boolean holds) {
        due(what, holds ? 1 : 0, 1);
    }

    /** Ends the test: exit code 1 if an answer was wrong. */
    void end() {
        System.out.println(name + ": " + asked + " answers, " + wrong + " not as due");
        if (wrong != 0 || asked == 0) {
            System.exit(1);
        }
    }

    /** Feeds a text to the tape, eight bytes at a time. */
    static int feedAll(FreeCity x, String text) {
        int bytes = text.isEmpty() ? x.count(10) : 0;
        for (int at = 0; at < text.length(); at += 8) {
            int n = Math.min(8, text.length() - at);
            long w = 0;
            for (int i = 0; i < n; i++) {
                w = w << 8 | text.charAt(at + i);
            }
            bytes = x.feed(w, n);
        }
        return bytes;
    }

    static int textOf(FreeCity x, int tongue, int day, String text) {
        feedAll(x, text);
        return x.text(tongue, day);
    }

    static int actOf(int side, int spot, int matter, int hour) {
        return ((side * 30 + spot) * 5 + matter) * 24 + hour;
    }
}
