import java.util.NoSuchElementException;
import java.util.function.Consumer;
import java.util.function.ToLongFunction;

/**
 * What the tests of the edges share. A state is told by how it is made, so that it can be made twice: once as it
 * was, once with the call that is looked at. So no object comes near its 512th call.
 */
final class Bench {
    static final int NONE = -1;
    static final int HIDDEN = -1000000;
    /** Stands for the exception of rate(). */
    static final int THROWN = -77;
    /** Of a refused call that no STATUS counts. */
    static final int UNCOUNTED = -1;
    static final int[] FAR_OFF = {Integer.MIN_VALUE, Integer.MIN_VALUE + 1, -1000000, Integer.MAX_VALUE - 1, Integer.MAX_VALUE};

    private static final int FEW_YEARS = 5;
    private static int promise;
    private static int asked;
    private static int wrong;

    private Bench() {
    }

    static void promise(int number) {
        promise = number;
    }

    static void due(String call, long got, long want) {
        asked++;
        if (got != want) {
            wrong++;
            System.out.println("promise " + promise + ": " + call + " answered " + got + ", due is " + want);
        }
    }

    static void due(String call, boolean got, boolean want) {
        due(call, got ? 1 : 0, want ? 1 : 0);
    }

    static void same(String call, String got, String want) {
        asked++;
        if (!got.equals(want)) {
            wrong++;
            System.out.println("promise " + promise + ": " + call + " left\n  " + got + "\ndue is\n  " + want);
        }
    }

    static void finish() {
        System.out.println(asked + " answers asked, " + wrong + " wrong");
        if (wrong != 0 || asked == 0) {
            System.exit(1);
        }
    }

    // ---- states

    static void feed(RefundDesk desk, String text) {
        for (int from = 0; from < text.length(); from += 20) {
            int[] five = new int[5];
            for (int i = 0; i < 20 && from + i < text.length(); i++) {
                five[i / 4] |= (text.charAt(from + i) & 255) << (24 - 8 * (i % 4));
            }
            desk.feed(five[0], five[1], five[2], five[3], five[4]);
        }
    }

    static int take(RefundDesk desk, String text, int sort) {
        desk.end(0);
        feed(desk, text);
        return desk.text(sort);
    }

    static RefundDesk made(Consumer<RefundDesk> state) {
        RefundDesk desk = new RefundDesk();
        state.accept(desk);
        return desk;
    }

    static RefundDesk with(String loan) {
        return made(loan(loan));
    }

    /** A loan, then single letters: u, d, c, r, w, b, a, f as in a script. */
    static RefundDesk with(String loan, String acts) {
        return made(loan(loan, acts));
    }

    static Consumer<RefundDesk> loan(String text) {
        return desk -> {
            if (take(desk, text, 0) < 1) {
                due("the loan " + text + " is taken", 0, 1);
            }
        };
    }

    static Consumer<RefundDesk> loan(String text, String acts) {
        return loan(text).andThen(desk -> acts(desk, acts));
    }

    static void acts(RefundDesk desk, String letters) {
        for (int i = 0; i < letters.length(); i++) {
            if (act(desk, letters.charAt(i)) < 0) {
                due("act " + i + " of " + letters + " can be", 0, 1);
            }
        }
    }

    static int act(RefundDesk desk, char letter) {
        switch (letter) {
            case 'u':
                return desk.up();
            case 'd':
                return desk.down();
            case 'c':
                return desk.call();
            case 'r':
                return desk.refund();
            case 'w':
                return desk.withdraw();
            case 'b':
                return desk.doBest();
            case 'a':
                return desk.adopt();
            default:
                return desk.follow();
        }
    }

    static int rateOf(RefundDesk desk, int year, int height) {
        try {
            return desk.rate(year, height);
        } catch (NoSuchElementException e) {
            return THROWN;
        }
    }

    // ---- calls that are taken, refused

    /** It answers as told, and no STATUS counts it; what is there then is asked of the desk that comes back. */
    static RefundDesk taken(String call, Consumer<RefundDesk> state, ToLongFunction<RefundDesk> ask, long answer) {
        RefundDesk before = made(state);
        RefundDesk after = made(state);
        due(call, ask.applyAsLong(after), answer);
        for (int what = 0; what < 4; what++) {
            due(call + ": status(" + what + ")", after.status(what), before.status(what));
        }
        return after;
    }

    /** It answers as told, one STATUS is one more (or none is), and nothing else is another, undone or not. */
    static void refused(String call, Consumer<RefundDesk> state, ToLongFunction<RefundDesk> ask, long answer, int status) {
        RefundDesk before = made(state);
        RefundDesk after = made(state);
        due(call, ask.applyAsLong(after), answer);
        for (int what = 0; what < 4; what++) {
            due(call + ": status(" + what + ")", after.status(what), before.status(what) + (what == status ? 1 : 0));
        }
        same(call, picture(after), picture(before));
        due(call + ": undo()", after.undo(), before.undo());
        same(call + " and undo()", outline(after), outline(before));
    }

    /** What is asked changes nothing: the same answer twice, and the state as it was. */
    static void asked(String call, Consumer<RefundDesk> state, ToLongFunction<RefundDesk> ask, long answer) {
        refused(call, state, desk -> {
            long first = ask.applyAsLong(desk);
            long second = ask.applyAsLong(desk);
            return first == second ? first : Long.MIN_VALUE;
        }, answer, UNCOUNTED);
    }

    // ---- what a state answers, STATUS apart

    static String picture(RefundDesk desk) {
        StringBuilder out = new StringBuilder(outline(desk));
        int years = desk.count(0);
        if (years > FEW_YEARS) {
            return out.toString();
        }
        for (int t = 0; t < years; t++) {
            out.append("\n  ").append(t).append(':');
            for (int h = 0; h <= t; h++) {
                for (int what = 0; what < 4; what++) {
                    put(out, desk.costs(t, h, what));
                }
                put(out, desk.byPolicy(t, h));
                put(out, desk.mended(t, h));
                put(out, desk.mass(t, h));
            }
            put(out, desk.edge(t));
            put(out, desk.ending(t, 0));
            put(out, desk.ending(t, 1));
        }
        out.append("\n  outlook:");
        for (int what = 0; what < 3; what++) {
            put(out, desk.way(0, what));
            put(out, desk.way(5, what));
            put(out, desk.masses(what));
            put(out, desk.strays(what));
            put(out, desk.sums(what));
            put(out, desk.spread(what + 2));
            put(out, desk.fault(what));
        }
        long[] single = {desk.worth(), desk.margin(), desk.till(), desk.fair(), desk.saved(), desk.regret(), desk.rounds(),
            desk.shifted(-7), desk.shifted(7), desk.spread(0), desk.spread(1)};
        for (long one : single) {
            put(out, one);
        }
        return out.toString();
    }

    /** All that acts change, and the tape, the scripts, as far as they can be seen; some hundred calls. */
    static String outline(RefundDesk desk) {
        StringBuilder out = new StringBuilder("rules:");
        int years = desk.count(0);
        for (int what = 0; what < 14; what++) {
            put(out, desk.rule(what));
        }
        out.append("\n  most:");
        for (int what = 0; what < 12; what++) {
            put(out, desk.most(what));
        }
        out.append("\n  counts:");
        for (int what = 0; what < 5; what++) {
            put(out, desk.count(what));
        }
        out.append("\n  log:");
        for (int i : new int[] {0, 1, 59}) {
            for (int what = 0; what < 3; what++) {
                put(out, desk.log(i, what));
            }
        }
        out.append("\n  nodes:");
        for (int t = 0; t < years; t++) {
            put(out, desk.year(t + 1, 0));
            for (int h = 0; h <= t; h++) {
                put(out, desk.rate(t, h));
                put(out, desk.deed(t, h));
            }
        }
        out.append("\n  scripts:");
        for (int script = 0; script < desk.count(1); script++) {
            put(out, desk.step(script, 0, 0));
        }
        return out.toString();
    }

    private static void put(StringBuilder out, long answer) {
        out.append(' ').append(answer);
    }
}
