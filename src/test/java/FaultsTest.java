import java.util.Arrays;
import java.util.Random;

/** Promise 4: random texts, their faults held against a second reader that goes sign by sign through states. */
public final class FaultsTest {
    private static final String[] ITEMS = {"ptcbudqmsfnkge", "ya", "yhr", "yha"};
    private static final int[][] LOW = {{1, 1, 0, 0, 0, 0, 0, 0, 0, 0, 0, 0, 0, 0}, {1, 0}, {0, 0, 0}, {0, 0, 0}};
    private static final int[][] HIGH = {{9999, 12, 999, 999, 99, 99, 100, 999, 99, 12, 2, 2, 99, 999}, {12, 9999}, {11, 11, 999}, {11, 11, 2}};
    private static final String KINDS = "lixp";
    private static final int[] MOST = {1, 12, 16, 24};

    public static void main(String[] args) {
        Random random = new Random(4);
        int wrong = 0;
        int good = 0;
        for (int i = 0; i < 60000 && wrong < 20; i++) {
            int sort = random.nextInt(3);
            String text = spoil(random, sort == 1 ? script(random) : clauses(random, sort));
            RefundDesk desk = new RefundDesk();
            feed(desk, text);
            int want = sort == 1 ? scriptFault(text) : clauseFault(text, sort);
            int got = desk.fault(sort);
            good += want == -1 ? 1 : 0;
            if (got != want) {
                wrong++;
                System.out.println("fault(" + sort + ") of '" + text + "' answered " + got + ", due is " + want);
            }
        }
        System.out.println(good + " texts without a fault, " + wrong + " wrong answers");
        if (wrong != 0 || good < 5000) {
            System.exit(1);
        }
    }

    private static void feed(RefundDesk desk, String text) {
        for (int i = 0; i < text.length(); i++) {
            desk.feed(0, 0, 0, text.charAt(i), 0);
        }
    }

    private static String blank(Random random) {
        return random.nextInt(8) == 0 ? " ".repeat(1 + random.nextInt(2)) : "";
    }

    private static String clauses(Random random, int sort) {
        StringBuilder text = new StringBuilder(blank(random));
        int size = 1 + random.nextInt(random.nextInt(6) == 0 ? 28 : 5);
        boolean rules = false;
        for (int i = 0; i < size && text.length() < 280; i++) {
            int kind = sort == 2 ? 3 : random.nextInt(3);
            kind = kind == 0 && rules && random.nextInt(9) > 0 ? 2 : kind;
            rules |= kind == 0;
            text.append(i > 0 ? ";" : "").append(blank(random)).append(KINDS.charAt(kind)).append(blank(random));
            for (int k = 0; k < ITEMS[kind].length(); k++) {
                if (random.nextInt(3) == 0) {
                    int span = HIGH[kind][k] - LOW[kind][k];
                    int edge = random.nextInt(30);
                    int number = edge == 0 ? HIGH[kind][k] + 1 : edge == 1 ? HIGH[kind][k] : LOW[kind][k] + random.nextInt(span + 1);
                    text.append(ITEMS[kind].charAt(k)).append(blank(random)).append(number).append(blank(random));
                }
            }
        }
        return text.toString();
    }

    private static String script(Random random) {
        StringBuilder text = new StringBuilder(blank(random));
        int size = 1 + random.nextInt(random.nextInt(5) == 0 ? 18 : 6);
        for (int i = 0; i < size; i++) {
            char code = "udcrwixbaf".charAt(random.nextInt(10));
            text.append(i > 0 ? ";" : "").append(blank(random)).append(code).append(blank(random));
            int numbers = code == 'i' ? 2 : code == 'x' ? 3 : 0;
            for (int k = 0; k < numbers; k++) {
                text.append(k > 0 ? "," : "").append(blank(random)).append(random.nextInt(random.nextInt(30) == 0 ? 12000 : 10000));
                text.append(blank(random));
            }
        }
        return text.toString();
    }

    private static String spoil(Random random, String text) {
        StringBuilder out = new StringBuilder(text);
        int times = random.nextInt(3) == 0 ? 0 : random.nextInt(3);
        for (int i = 0; i < times && out.length() > 0; i++) {
            int at = random.nextInt(out.length());
            String signs = "lixpptcbudqmsfnkgeyahrw;;,, 0123456789\u00ff";
            char sign = signs.charAt(random.nextInt(signs.length()));
            switch (random.nextInt(4)) {
                case 0:
                    out.deleteCharAt(at);
                    break;
                case 1:
                    out.insert(at, sign);
                    break;
                case 2:
                    out.setCharAt(at, sign);
                    break;
                default:
                    out.setLength(at);
                    break;
            }
        }
        return out.length() > 320 ? out.substring(0, 320) : out.toString();
    }

    private static boolean digit(char c) {
        return c >= '0' && c <= '9';
    }

    /** State 0: a clause begins; 1: an item, a ; or the end; 2: a number begins; 3: within a number. */
    private static int clauseFault(String text, int sort) {
        int state = 0;
        int kind = 0;
        int item = 0;
        int number = 0;
        int digits = 0;
        int[] counted = new int[4];
        boolean[] seen = new boolean[14];
        for (int i = 0; i <= text.length(); i++) {
            boolean over = i == text.length();
            char c = over ? 0 : text.charAt(i);
            if (state == 3) {
                if (!over && digit(c)) {
                    digits++;
                    number = number * 10 + c - '0';
                    if (digits == 5) {
                        return i;
                    }
                    continue;
                }
                if (number < LOW[kind][item] || number > HIGH[kind][item]) {
                    return i - 1;
                }
                state = 1;
            }
            if (over) {
                return state == 1 ? -1 : i;
            }
            if (c == ' ') {
                continue;
            }
            if (state == 0) {
                kind = KINDS.indexOf(c);
                if (kind < 0 || (kind == 3) != (sort == 2) || ++counted[kind] > MOST[kind]) {
                    return i;
                }
                Arrays.fill(seen, false);
                state = 1;
            } else if (state == 1 && c == ';') {
                state = 0;
            } else if (state == 1) {
                item = ITEMS[kind].indexOf(c);
                if (item < 0 || seen[item]) {
                    return i;
                }
                seen[item] = true;
                state = 2;
            } else {
                if (!digit(c)) {
                    return i;
                }
                number = c - '0';
                digits = 1;
                state = 3;
            }
        }
        return -1;
    }

    /** State 0: a step begins; 1: a number begins; 2: within a number; 3: behind one; 4: the step is whole. */
    private static int scriptFault(String text) {
        int state = 0;
        int wanted = 0;
        int digits = 0;
        int steps = 0;
        for (int i = 0; i < text.length(); i++) {
            char c = text.charAt(i);
            if (state == 2) {
                if (digit(c)) {
                    if (++digits == 5) {
                        return i;
                    }
                    continue;
                }
                state = wanted == 0 ? 4 : 3;
            }
            if (c == ' ') {
                continue;
            }
            if (state == 0) {
                if ("udcrwixbaf".indexOf(c) < 0) {
                    return i;
                }
                steps++;
                wanted = c == 'i' ? 2 : c == 'x' ? 3 : 0;
                state = wanted > 0 ? 1 : 4;
            } else if (state == 1) {
                if (!digit(c)) {
                    return i;
                }
                digits = 1;
                wanted--;
                state = 2;
            } else if (state == 3) {
                if (c != ',') {
                    return i;
                }
                state = 1;
            } else {
                if (c != ';' || steps == 16) {
                    return i;
                }
                state = 0;
            }
        }
        return state == 4 || state == 2 && wanted == 0 ? -1 : text.length();
    }
}
