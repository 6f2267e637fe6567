import java.util.Random;

/** Random texts whose values are known as they are made, and faults found by a reader sign by sign. */
public final class TextTest {
    private static final Due DUE = new Due();
    private static final String[] NAMES = {"lmk", "lpn"};
    private static final String[] SIGNS = {"|", "&", "<=>", "+-", "*/%"};
    private static final int[] MOST = {999, 99};

    private final Random random;
    private final int use;
    private final int[] values;
    private int value;

    private TextTest(int seed) {
        random = new Random(seed);
        use = random.nextInt(2);
        values = new int[] {number(), number(), number()};
    }

    public static void main(String[] args) {
        for (int seed = 1; seed <= 40000; seed++) {
            new TextTest(seed).run();
        }
        DUE.end();
    }

    private int number() {
        switch (random.nextInt(6)) {
            case 0: return random.nextInt();
            case 1: return random.nextBoolean() ? Integer.MIN_VALUE : Integer.MAX_VALUE;
            case 2: return random.nextInt(3) - 1;
            default: return random.nextInt(200) - 50;
        }
    }

    private void run() {
        String text = made(0, 0);
        int due = Math.max(0, Math.min(MOST[use], value));
        if (text.length() <= 50) {
            UnderstudyHouse house = new UnderstudyHouse();
            DUE.due("text " + text, Due.text(house, use, text), 1);
            DUE.due("law by " + text, house.law(use, values[0], values[1], values[2]), due);
            DUE.due("tape", house.count(7), 0);
        }
        String spoilt = spoilt(text);
        if (spoilt.length() <= 50) {
            int fault = fault(spoilt);
            UnderstudyHouse house = new UnderstudyHouse();
            DUE.due("text " + spoilt, Due.text(house, use, spoilt), fault < 0 ? 1 : -10 - fault);
        }
    }

    /** A text of a level (0 for T .. 4 for P, 5 for Q), its value in value. */
    private String made(int level, int open) {
        if (level == 5) {
            return single(open);
        }
        StringBuilder text = new StringBuilder(made(level + 1, open));
        int sum = value;
        int most = level == 2 ? 1 : 2;
        for (int i = 0; i < most && random.nextInt(5 + 2 * open) == 0; i++) {
            char sign = SIGNS[level].charAt(random.nextInt(SIGNS[level].length()));
            text.append(sign).append(made(level + 1, open));
            sum = joined(sign, sum, value);
        }
        value = sum;
        return text.toString();
    }

    private static int joined(char sign, int a, int b) {
        switch (sign) {
            case '|': return a == 0 && b == 0 ? 0 : 1;
            case '&': return a == 0 || b == 0 ? 0 : 1;
            case '<': return a < b ? 1 : 0;
            case '=': return a == b ? 1 : 0;
            case '>': return a > b ? 1 : 0;
            case '+': return (int) ((long) a + b);
            case '-': return (int) ((long) a - b);
            case '*': return (int) ((long) a * b);
            case '/': return b == 0 ? 0 : (int) ((long) a / b);
            default: return b == 0 ? 0 : (int) ((long) a % b);
        }
    }

    private String single(int open) {
        int way = random.nextInt(open < 5 ? 8 : 4);
        if (way < 2) {
            value = random.nextInt(way == 0 ? 10 : 10000);
            return Integer.toString(value);
        }
        if (way < 4) {
            int name = random.nextInt(3);
            value = values[name];
            return NAMES[use].substring(name, name + 1);
        }
        if (way < 6) {
            String text = "!" + made(5, open + 1);
            value = value == 0 ? 1 : 0;
            return text;
        }
        return "(" + made(0, open + 1) + ")";
    }

    private String spoilt(String text) {
        StringBuilder other = new StringBuilder(text);
        String signs = "|&<=>+-*/%!()0129lmkpn (((!!)))" + (char) 233 + (char) 0 + (char) 255;
        for (int i = random.nextInt(3); i >= 0; i--) {
            int at = random.nextInt(other.length() + 1);
            char sign = signs.charAt(random.nextInt(signs.length()));
            switch (random.nextInt(4)) {
                case 0: other.insert(at, sign); break;
                case 1: other.setLength(at); break;
                case 2: other.replace(at, Math.min(at + 1, other.length()), "" + sign); break;
                default: other.insert(at, "" + sign + sign); break;
            }
        }
        return other.toString();
    }

    /**
     * Reads sign by sign with a list of what is open: '(' plain, '<' a ( that has compared, '!'; its first sign
     * stands for the whole text. -1: it is a text.
     */
    private int fault(String text) {
        StringBuilder open = new StringBuilder("(");
        boolean behind = false;
        int digits = 0;
        for (int place = 0; place < text.length(); place++) {
            char sign = text.charAt(place);
            int last = open.length() - 1;
            boolean digit = sign >= '0' && sign <= '9';
            if (behind && digit && digits > 0 && digits < 4) {
                digits++;
                continue;
            }
            digits = 0;
            if (!behind) {
                if (sign == '!' || sign == '(') {
                    if (last == 5) {
                        return place;
                    }
                    open.append(sign);
                    continue;
                }
                if (!digit && NAMES[use].indexOf(sign) < 0) {
                    return place;
                }
                digits = digit ? 1 : 0;
            } else if (sign == ')') {
                if (last == 0) {
                    return place;
                }
                open.setLength(last);
            } else if ("|&<=>+-*/%".indexOf(sign) < 0 || "<=>".indexOf(sign) >= 0 && open.charAt(last) == '<') {
                return place;
            } else {
                if ("<=>".indexOf(sign) >= 0) {
                    open.setCharAt(last, '<');
                } else if (sign == '|' || sign == '&') {
                    open.setCharAt(last, '(');
                }
                behind = false;
                continue;
            }
            behind = true;
            while (open.charAt(open.length() - 1) == '!') {
                open.setLength(open.length() - 1);
            }
        }
        return behind && open.length() == 1 ? -1 : text.length();
    }
}
