import java.util.ArrayDeque;
import java.util.Deque;

/** A text as it was fed: its fault is found byte by byte, its clauses are read anew for each act. */
final class PlainText {
    final int number, tongue, day;
    final String[] clauses;
    private String rest;

    PlainText(int number, int tongue, int day, String whole) {
        this.number = number;
        this.tongue = tongue;
        this.day = day;
        this.clauses = whole.split(";");
    }

    /** Goes from byte to byte by what may come next; -1: no fault. */
    static int fault(String text) {
        Deque<Character> open = new ArrayDeque<>();
        String wordLeft = null; // what is left of let or bar
        char state = 'K'; // Keyword, Word, Operand, = sign, <> sign, 1st digit, 2nd digit, After an operand
        int clauses = 0;
        for (int i = 0; i < text.length(); i++) {
            char c = text.charAt(i);
            boolean digit = c >= '0' && c <= '9';
            if (state == '2' && !digit) state = 'A';
            switch (state) {
                case 'K':
                    if (c != 'l' && c != 'b') return i;
                    wordLeft = c == 'l' ? "et " : "ar ";
                    state = 'W';
                    clauses++;
                    break;
                case 'W':
                    if (c != wordLeft.charAt(0)) return i;
                    wordLeft = wordLeft.substring(1);
                    if (wordLeft.isEmpty()) state = 'O';
                    break;
                case 'O':
                    if (c == '!' || c == '(') {
                        if (open.size() == 6) return i;
                        open.push(c);
                    } else if ("sgmp".indexOf(c) >= 0) {
                        state = '=';
                    } else if (c == 'h') {
                        state = '<';
                    } else {
                        return i;
                    }
                    break;
                case '=':
                    if (c != '=') return i;
                    state = '1';
                    break;
                case '<':
                    if (c != '<' && c != '>') return i;
                    state = '1';
                    break;
                case '1':
                    if (!digit) return i;
                    state = c == '0' ? 'A' : '2';
                    break;
                case '2':
                    state = 'A';
                    break;
                default:
                    while (!open.isEmpty() && open.peek() == '!') open.pop();
                    if (c == '&' || c == '|') {
                        state = 'O';
                    } else if (c == ')' && !open.isEmpty()) {
                        open.pop();
                    } else if (c == ';' && open.isEmpty() && clauses < 8) {
                        state = 'K';
                    } else {
                        return i;
                    }
            }
        }
        while (!open.isEmpty() && open.peek() == '!') open.pop();
        return (state == 'A' || state == '2') && open.isEmpty() ? -1 : text.length();
    }

    int lastClause(int act, int[] ground) {
        for (int i = clauses.length - 1; i >= 0; i--) {
            rest = clauses[i].substring(4);
            if (either(act, ground)) return i;
        }
        return -1;
    }

    private boolean eat(char c) {
        boolean there = !rest.isEmpty() && rest.charAt(0) == c;
        if (there) rest = rest.substring(1);
        return there;
    }

    private boolean either(int act, int[] ground) {
        boolean left = both(act, ground);
        return eat('|') ? either(act, ground) | left : left;
    }

    private boolean both(int act, int[] ground) {
        boolean left = fact(act, ground);
        return eat('&') ? both(act, ground) & left : left;
    }

    private boolean fact(int act, int[] ground) {
        if (eat('!')) return !fact(act, ground);
        if (eat('(')) {
            boolean inner = either(act, ground);
            eat(')');
            return inner;
        }
        char name = rest.charAt(0);
        char sign = rest.charAt(1);
        int end = 2;
        while (end < rest.length() && Character.isDigit(rest.charAt(end))) end++;
        int number = Integer.parseInt(rest.substring(2, end));
        rest = rest.substring(end);
        int hour = act % 24, matter = act / 24 % 5, spot = act / 120 % 30, side = act / 3600;
        switch (name) {
            case 's': return side == number;
            case 'g': return ground[spot] == number;
            case 'm': return matter == number;
            case 'p': return spot == number;
            default: return sign == '<' ? hour < number : hour > number;
        }
    }
}
