import java.lang.reflect.InvocationTargetException;
import java.lang.reflect.Method;
import java.lang.reflect.Modifier;
import java.util.ArrayList;
import java.util.Comparator;
import java.util.List;
import java.util.NoSuchElementException;
import java.util.Random;

/**
 * Any call with any numbers in any state: nothing is thrown but by rate() where there is no node, what is asked
 * changes nothing, and the same calls give the same answers. Three objects go side by side: two get all calls, the
 * third one none that only asks; no object gets more calls than the document promises it to bear.
 */
public final class RoughUseTest {
    private static final int[] ODD = {Integer.MIN_VALUE, -1000000, -100, -99, -2, -1, 0, 1, 2, 3, 4, 5, 11, 12, 13, 14, 40, 41, 60, 99,
        100, 999, 1000, 9999, 10000, Integer.MAX_VALUE - 1, Integer.MAX_VALUE};
    private static final String[] QUIET = {"fault", "rule", "rate", "year", "costs", "best", "status", "log", "way", "mass", "masses",
        "worth", "margin", "till", "edge", "fair", "ending", "saved", "sums", "deed", "byPolicy", "regret", "strays", "mended", "rounds",
        "shifted", "spread", "step", "run", "most", "count"};
    private static final int MOST_CALLS = 512;
    /** At most so many calls a picture makes, so many the telling of a text. */
    private static final int PICTURE = 251;
    private static final int TELLING = 10;
    private static int wrong;

    public static void main(String[] args) throws Exception {
        List<Method> face = new ArrayList<>();
        for (Method method : RefundDesk.class.getDeclaredMethods()) {
            if (Modifier.isPublic(method.getModifiers())) {
                face.add(method);
            }
        }
        face.sort(Comparator.comparing(Method::getName));
        Random random = new Random(7);
        for (int run = 0; run < 3000 && wrong < 10; run++) {
            oneRun(random, face);
        }
        System.out.println(wrong == 0 ? "rough use is borne" : wrong + " faults under rough use");
        if (wrong != 0) {
            System.exit(1);
        }
    }

    private static void oneRun(Random random, List<Method> face) throws Exception {
        RefundDesk one = new RefundDesk();
        RefundDesk two = new RefundDesk();
        RefundDesk unasked = new RefundDesk();
        int used = 0;
        while (used <= MOST_CALLS - PICTURE - TELLING) {
            if (used == 0 || random.nextInt(30) == 0) {
                String text = text(random);
                int sort = text.charAt(0) == 'l' ? 0 : text.charAt(0) == 'p' ? 2 : 1;
                tell(one, text, sort);
                tell(two, text, sort);
                tell(unasked, text, sort);
                used += 2 + (text.length() + 19) / 20;
                continue;
            }
            Method method = face.get(random.nextInt(face.size()));
            Object[] numbers = numbers(random, method);
            Object first = answer(one, method, numbers);
            same(method.getName(), first, answer(two, method, numbers));
            if (!List.of(QUIET).contains(method.getName())) {
                same(method.getName() + " of the one that was not asked", first, answer(unasked, method, numbers));
            }
            used++;
        }
        String seen = picture(one);
        same("the state", seen, picture(two));
        same("the state of the one that was not asked", seen, picture(unasked));
        same("no more calls than are promised", used <= MOST_CALLS - PICTURE, true);
    }

    private static void same(String what, Object first, Object second) {
        if (!first.equals(second)) {
            wrong++;
            System.out.println(what + ": " + first + " and " + second);
        }
    }

    private static Object[] numbers(Random random, Method method) {
        Class<?>[] kinds = method.getParameterTypes();
        Object[] numbers = new Object[kinds.length];
        for (int i = 0; i < kinds.length; i++) {
            int one = random.nextInt(3) == 0 ? ODD[random.nextInt(ODD.length)] : random.nextInt(6);
            if (kinds[i] == long.class) {
                numbers[i] = random.nextLong();
            } else {
                numbers[i] = one;
            }
        }
        return numbers;
    }

    private static Object answer(RefundDesk desk, Method method, Object[] numbers) throws Exception {
        try {
            return method.invoke(desk, numbers);
        } catch (InvocationTargetException e) {
            if (!(e.getCause() instanceof NoSuchElementException) || !method.getName().equals("rate")) {
                wrong++;
                e.getCause().printStackTrace(System.out);
            }
            return "thrown";
        }
    }

    /** What can be seen of the state without the calls that reckon. */
    private static String picture(RefundDesk desk) {
        StringBuilder out = new StringBuilder();
        int years = desk.count(0);
        for (int what = 0; what < 14; what++) {
            out.append(desk.rule(what)).append(' ').append(desk.most(what)).append(' ').append(desk.year(what, 0)).append(' ');
            out.append(desk.log(what, 0)).append(' ').append(desk.log(what, 1)).append(' ').append(desk.log(what, 2)).append(' ');
        }
        for (int what = 0; what < 5; what++) {
            out.append(desk.count(what)).append(' ').append(desk.status(what)).append(' ');
        }
        for (int t = 0; t < years; t++) {
            for (int h = 0; h <= t; h++) {
                out.append(desk.rate(t, h)).append('/').append(desk.deed(t, h)).append(' ');
            }
        }
        return out.toString();
    }

    private static void tell(RefundDesk desk, String text, int sort) {
        desk.end(0);
        for (int from = 0; from < text.length(); from += 20) {
            int[] five = new int[5];
            for (int i = 0; i < 20 && from + i < text.length(); i++) {
                five[i / 4] |= text.charAt(from + i) << (24 - 8 * (i % 4));
            }
            desk.feed(five[0], five[1], five[2], five[3], five[4]);
        }
        desk.text(sort);
    }

    private static String text(Random random) {
        int kind = random.nextInt(4);
        if (kind == 0) {
            return "py" + random.nextInt(12) + "h" + random.nextInt(12) + "a" + random.nextInt(3) + ";pa2;py1a1";
        }
        if (kind == 1) {
            return "u;i" + random.nextInt(13) + ",50;x" + random.nextInt(12) + ",1,77;b;d;a;f;c;w;r;u";
        }
        boolean extreme = random.nextInt(4) == 0;
        return "l" + (extreme ? "p9999c999m999e999g99s0" : "p" + (1 + random.nextInt(9999)) + "c" + random.nextInt(300))
            + "t" + (1 + random.nextInt(12)) + "f" + random.nextInt(4) + "n" + random.nextInt(3) + "k" + random.nextInt(3)
            + "b" + random.nextInt(extreme ? 1000 : 120) + "q" + random.nextInt(101) + ";xy3h3r" + random.nextInt(1000)
            + ";iy2a" + random.nextInt(2000);
    }
}
