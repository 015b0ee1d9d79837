import java.util.ArrayList;
import java.util.HashMap;
import java.util.HashSet;
import java.util.List;
import java.util.Map;
import java.util.Random;
import java.util.Set;

/**
 * Random runs of calls, each answer held against a second, slow program that is written straight from the
 * document: recursion from node to node instead of rows, whole copies instead of rings, every way and every
 * rate tried instead of halving.
 */
public final class AgainstModelTest {
    /** So many calls the document promises an object to bear. */
    private static final int MOST_CALLS = 512;
    /** At most so many calls one turn of a run makes (a full tape is told), at most so many one comparing. */
    private static final int TURN = 20;
    private static final int COMPARING = 100;
    private static int wrong;
    private static int asked;
    private static int used;
    private static String story = "";

    public static void main(String[] args) {
        int runs = args.length > 1 ? Integer.parseInt(args[1]) : 300;
        long seed = args.length > 2 ? Long.parseLong(args[2]) : 20261117L;
        Random random = new Random(seed);
        manyRounds("lp468t12c88b34u6d93q86m31s43f0n0k2g3e1", "xy8h6r183;xy4h2r167", "py11h2a1;py10h6a2", 20);
        manyRounds("lp2707t12c184b42u15d99q96m11s55f0n0k1g2e1", "xy3h0r838",
            "py11h11a1;py2h0a1;py7h6a1;py7h7a1;py10h4a2;py11h5a1;py0h0a1;py2h1a2;py3h1a2;py8h4a2;py1h0a2", 21);
        for (int i = 0; i < runs && wrong < 20; i++) {
            oneRun(random, i);
        }
        System.out.println(asked + " answers asked, " + wrong + " wrong");
        if (wrong != 0 || asked < 1000) {
            System.exit(1);
        }
    }

    /** Each answer that is asked is a call of the object. */
    private static void due(String call, long got, long want) {
        asked++;
        used++;
        if (got != want) {
            wrong++;
            System.out.println(story + "\n   " + call + " answered " + got + ", the model says " + want);
        }
    }

    static void put(RefundDesk desk, String text) {
        desk.end(0);
        used++;
        for (int from = 0; from < text.length(); from += 20) {
            used++;
            int[] five = new int[5];
            for (int i = 0; i < 20; i++) {
                int sign = from + i < text.length() ? text.charAt(from + i) : 0;
                five[i / 4] |= sign << (24 - 8 * (i % 4));
            }
            desk.feed(five[0], five[1], five[2], five[3], five[4]);
        }
    }

    /** How many rounds it takes without a bound: 20 are told, 21 are not. */
    private static void manyRounds(String loan, String rates, String deeds, int rounds) {
        RefundDesk desk = new RefundDesk();
        Model model = new Model();
        story = loan + ";" + rates + ", policy " + deeds + ":";
        String[] numbers = loan.substring(1).split("[a-z]");
        int[] rules = new int[14];
        for (int i = 0; i < 14; i++) {
            rules[i] = Integer.parseInt(numbers[i + 1]);
        }
        model.loan(rules);
        for (String clause : rates.split(";")) {
            String[] three = clause.substring(2).split("[hr]");
            model.clauseRate(Integer.parseInt(three[0]), Integer.parseInt(three[1]), Integer.parseInt(three[2]));
        }
        for (String clause : deeds.split(";")) {
            String[] three = clause.substring(2).split("[ha]");
            model.clausePolicy(Integer.parseInt(three[0]), Integer.parseInt(three[1]), Integer.parseInt(three[2]));
        }
        put(desk, loan + ";" + rates);
        due("text(0)", desk.text(0), 12);
        put(desk, deeds);
        due("text(2)", desk.text(2), model.policySize());
        due("rounds without a bound", rounds, model.roundsUpTo(100));
        due("rounds()", desk.rounds(), model.rounds());
        due("rounds()", desk.rounds(), rounds > 20 ? -1 : rounds);
    }

    private static int pick(Random random, int[] some) {
        return some[random.nextInt(some.length)];
    }

    private static void oneRun(Random random, int run) {
        RefundDesk desk = new RefundDesk();
        Model model = new Model();
        boolean small = run % 3 != 0;
        boolean busy = run % 5 == 0;
        used = 0;
        loan(random, desk, model, small, "run " + run);
        int scripts = 0;
        for (int i = 0; used <= MOST_CALLS - TURN - COMPARING && wrong < 20; i++) {
            int kind = random.nextInt(40);
            if (busy && random.nextInt(20) > 0) {
                aTelling(random, desk, model);
            } else if (kind < 22) {
                anAct(random, desk, model);
            } else if (kind < 24) {
                policy(random, desk, model);
            } else if (kind == 24 && scripts < 4) {
                scripts += script(random, desk, model) ? 1 : 0;
            } else if (kind == 25 && random.nextInt(4) == 0) {
                loan(random, desk, model, small, "run " + run + " loan anew");
            } else if (kind < 28) {
                story += " image";
                due("image()", desk.image(), model.image());
            } else if (kind == 28) {
                story += " back";
                due("back()", desk.back(), model.back());
            } else {
                ask(random, desk, model);
            }
            if (i % (busy ? 100 : 24) == 12 && used <= MOST_CALLS - TURN - 2 * COMPARING) {
                compare(random, desk, model, small);
            }
        }
        compare(random, desk, model, small);
        if (used > MOST_CALLS) {
            wrong++;
            System.out.println(story + "\n   made " + used + " calls");
        }
    }

    private static void loan(Random random, RefundDesk desk, Model model, boolean small, String name) {
        int years = small ? 1 + random.nextInt(4) : 1 + random.nextInt(12);
        int[] rules = {pick(random, new int[] {1, 7, 100, 1000, 9999, 1 + random.nextInt(9999)}), years,
            pick(random, new int[] {0, 50, 100, 999, random.nextInt(200)}), random.nextInt(random.nextInt(5) == 0 ? 1000 : 150),
            random.nextInt(random.nextInt(5) == 0 ? 100 : 30), random.nextInt(random.nextInt(5) == 0 ? 100 : 30),
            pick(random, new int[] {50, 0, 100, random.nextInt(101)}), pick(random, new int[] {0, 20, random.nextInt(60), 999}),
            random.nextInt(random.nextInt(5) == 0 ? 100 : 10), random.nextInt(random.nextInt(3) == 0 ? 13 : 2),
            random.nextInt(3), random.nextInt(3), random.nextInt(random.nextInt(3) == 0 ? 100 : 5),
            pick(random, new int[] {0, 5, random.nextInt(30), 999})};
        if (random.nextInt(3) == 0) {
            // rates that rise and cheap refunds: these are best more than once
            rules[6] = 50 + random.nextInt(51);
            rules[7] = random.nextInt(8);
            rules[11] = 2;
            rules[12] = random.nextInt(3);
            rules[13] = random.nextInt(5);
        }
        StringBuilder text = new StringBuilder("l");
        for (int i = 0; i < 14; i++) {
            text.append("ptcbudqmsfnkge".charAt(i)).append(rules[i]);
        }
        model.loan(rules);
        int more = random.nextInt(10);
        for (int i = 0; i < more; i++) {
            int year = random.nextInt(12);
            if (random.nextInt(2) == 0) {
                int amount = random.nextInt(random.nextInt(4) == 0 ? 10000 : 300);
                text.append(";iy").append(year + 1).append('a').append(amount);
                model.clauseInstalment(year + 1, amount);
            } else {
                int height = random.nextInt(year + 2) % 12;
                int rate = random.nextInt(random.nextInt(4) == 0 ? 1000 : 150);
                text.append(";x y").append(year).append(" h").append(height).append(" r").append(rate);
                model.clauseRate(year, height, rate);
            }
        }
        story = name + ": " + text + ":";
        put(desk, text.toString());
        due("fault(0)", desk.fault(0), -1);
        due("text(0)", desk.text(0), years);
    }

    private static void policy(Random random, RefundDesk desk, Model model) {
        StringBuilder text = new StringBuilder();
        model.clearPolicy();
        int size = 1 + random.nextInt(24);
        for (int i = 0; i < size; i++) {
            int year = random.nextInt(Math.min(12, model.years() + 1));
            int height = random.nextInt(Math.min(12, year + 2));
            int deed = random.nextInt(3);
            text.append(i > 0 ? ";" : "").append("py").append(year).append('h').append(height).append('a').append(deed);
            model.clausePolicy(year, height, deed);
        }
        story += " policy(" + text + ")";
        put(desk, text.toString());
        due("text(2)", desk.text(2), model.policySize());
    }

    private static boolean script(Random random, RefundDesk desk, Model model) {
        StringBuilder text = new StringBuilder();
        int size = 1 + random.nextInt(16);
        int[][] steps = new int[size][];
        for (int i = 0; i < size; i++) {
            int sort = random.nextInt(3) > 0 ? random.nextInt(2) : random.nextInt(10);
            steps[i] = new int[] {sort, -1, -1, -1};
            text.append(i > 0 ? ";" : "").append("udcrwixbaf".charAt(sort));
            if (sort == 5) {
                steps[i] = new int[] {sort, random.nextInt(12), random.nextInt(10000), -1};
                text.append(steps[i][1]).append(',').append(steps[i][2]);
            } else if (sort == 6) {
                steps[i] = new int[] {sort, random.nextInt(12), random.nextInt(8), random.nextInt(1010)};
                text.append(steps[i][1]).append(" ,").append(steps[i][2]).append(", ").append(steps[i][3]);
            }
        }
        story += " script(" + text + ")";
        put(desk, text.toString());
        due("text(1)", desk.text(1), model.scripts.size());
        model.scripts.add(steps);
        return true;
    }

    private static void anAct(Random random, RefundDesk desk, Model model) {
        int which = random.nextInt(24);
        if (which < 6) {
            boolean up = random.nextBoolean();
            story += up ? " up" : " down";
            due("up/down", up ? desk.up() : desk.down(), model.act(up ? 0 : 1, 0, 0, 0, true));
        } else if (which < 8) {
            story += " call";
            due("call()", desk.call(), model.act(2, 0, 0, 0, true));
        } else if (which < 10) {
            story += " refund";
            due("refund()", desk.refund(), model.act(3, 0, 0, 0, true));
        } else if (which == 10) {
            story += " withdraw";
            due("withdraw()", desk.withdraw(), model.act(4, 0, 0, 0, true));
        } else if (which < 13) {
            int year = random.nextInt(14) - 1;
            int amount = pick(random, new int[] {0, 9999, 10000, -1, random.nextInt(500), random.nextInt(500)});
            story += " instal(" + year + "," + amount + ")";
            due("instal", desk.instal(year, amount), model.act(5, year, amount, 0, true));
        } else if (which < 15) {
            int year = random.nextInt(14) - 1;
            int height = random.nextInt(14) - 1;
            int rate = pick(random, new int[] {0, 999, 1000, -1, random.nextInt(200), random.nextInt(200)});
            story += " tell(" + year + "," + height + "," + rate + ")";
            due("tell", desk.tell(year, height, rate), model.act(6, year, height, rate, true));
        } else if (which == 15) {
            story += " doBest";
            due("doBest()", desk.doBest(), model.act(7, 0, 0, 0, true));
        } else if (which == 16) {
            story += " adopt";
            due("adopt()", desk.adopt(), model.act(8, 0, 0, 0, true));
        } else if (which == 17) {
            story += " follow";
            due("follow()", desk.follow(), model.act(9, 0, 0, 0, true));
        } else if (which < 22) {
            story += " undo";
            due("undo()", desk.undo(), model.undo());
        } else if (which == 22) {
            int n = random.nextInt(3) == 0 ? random.nextInt(43) - 1 : 1 + random.nextInt(6);
            long seed = random.nextLong();
            story += " years(" + n + "," + seed + ")";
            due("years", desk.years(n, seed), model.years(n, seed));
        } else {
            int script = random.nextInt(4);
            story += " perform(" + script + ")";
            due("perform", desk.perform(script), model.perform(script));
        }
    }

    /** Acts that can be again and again: so there come to be more than can be undone, more than the log shows. */
    private static void aTelling(Random random, RefundDesk desk, Model model) {
        State now = model.state;
        int year = Math.min(model.years() - 1, now.t) + random.nextInt(Math.max(1, model.years() - now.t));
        int height = now.h + random.nextInt(Math.max(1, year - now.t + 1));
        int number = random.nextInt(200);
        if (now.ended) {
            story += " undo";
            due("undo()", desk.undo(), model.undo());
        } else if (random.nextBoolean()) {
            story += " tell(" + year + "," + height + "," + number + ")";
            due("tell", desk.tell(year, height, number), model.act(6, year, height, number, true));
        } else {
            story += " instal(" + year + "," + number + ")";
            due("instal", desk.instal(year, number), model.act(5, year, number, 0, true));
        }
    }

    private static void ask(Random random, RefundDesk desk, Model model) {
        int year = random.nextInt(model.years() + 3) - 1;
        int height = random.nextInt(model.years() + 3) - 1;
        int what = random.nextInt(7) - 1;
        String node = "(" + year + "," + height + ")";
        due("costs" + node + what, desk.costs(year, height, what), model.costs(year, height, what));
        due("best" + node, desk.best(year, height), model.best(year, height));
        due("edge " + year, desk.edge(year), model.edge(year));
        due("deed" + node, desk.deed(year, height), model.deed(year, height));
        due("byPolicy" + node, desk.byPolicy(year, height), model.byPolicy(year, height));
        due("mended" + node, desk.mended(year, height), model.mended(year, height));
        due("mass" + node, desk.mass(year, height), model.mass(year, height));
        due("ending" + year + " " + what, desk.ending(year, what), model.ending(year, what));
        int moves = random.nextInt(8192) - 2;
        due("way" + moves + " " + what, desk.way(moves, what), model.way(moves, what));
        int n = random.nextInt(205) - 102;
        due("shifted " + n, desk.shifted(n), model.shifted(n));
        due("year" + year + " " + what, desk.year(year, what), model.year(year, what));
        int script = random.nextInt(5) - 1;
        due("run" + script + what, desk.run(script, what), model.run(script, what));
        due("step", desk.step(script, height, what), model.step(script, height, what));
        int k = -1000;
        try {
            k = desk.rate(year, height);
        } catch (java.util.NoSuchElementException e) {
            k = -77;
        }
        due("rate" + node, k, model.isNode(year, height) ? model.rate(year, height) : -77);
    }

    private static void compare(Random random, RefundDesk desk, Model model, boolean small) {
        for (int what = -1; what <= 14; what++) {
            due("rule " + what, desk.rule(what), model.rule(what));
        }
        for (int what = -1; what <= 12; what++) {
            due("most " + what, desk.most(what), model.most(what));
        }
        for (int what = 0; what < 4; what++) {
            due("status " + what, desk.status(what), model.refused[what]);
            due("masses " + what, desk.masses(what), model.masses(what));
            due("strays " + what, desk.strays(what), model.strays(what));
            due("sums " + what, desk.sums(what), model.sums(what));
        }
        due("count 3", desk.count(3), Math.min(60, model.state.log.size()));
        due("count 4", desk.count(4), model.undos.size());
        int i = random.nextInt(64) - 1;
        for (int what = -1; what <= 3; what++) {
            due("log " + i + " " + what, desk.log(i, what), model.log(i, what));
            due("log 0 " + what, desk.log(0, what), model.log(0, what));
            due("log 1 " + what, desk.log(1, what), model.log(1, what));
        }
        due("worth", desk.worth(), model.worth());
        due("margin", desk.margin(), model.margin());
        due("saved", desk.saved(), model.saved());
        due("regret", desk.regret(), model.regret());
        due("rounds", desk.rounds(), model.rounds());
        if (small || random.nextInt(6) == 0) {
            for (int what = 0; what < 5; what++) {
                due("spread " + what, desk.spread(what), model.spread(what));
            }
        }
        if (small && random.nextInt(3) == 0) {
            due("till", desk.till(), model.till());
            due("fair", desk.fair(), model.fair());
        }
        for (int nodes = 0; nodes < 5; nodes++) {
            int t = random.nextInt(model.years());
            int h = random.nextInt(t + 1);
            for (int what = 0; what < 4; what++) {
                due("costs(" + t + "," + h + ")" + what, desk.costs(t, h, what), model.costs(t, h, what));
            }
        }
    }

    /** All that acts change. */
    private static final class State {
        int t;
        int h;
        int coupon;
        int refunds;
        int kind;
        int wait;
        int paid;
        int interest;
        int premiums;
        int fees;
        int renewed;
        boolean ended;
        Map<Integer, Integer> told = new HashMap<>();
        Map<Integer, Integer> rates = new HashMap<>();
        Map<Integer, Integer> deeds = new HashMap<>();
        List<int[]> log = new ArrayList<>();

        State copy() {
            State s = new State();
            s.t = t;
            s.h = h;
            s.coupon = coupon;
            s.refunds = refunds;
            s.kind = kind;
            s.wait = wait;
            s.paid = paid;
            s.interest = interest;
            s.premiums = premiums;
            s.fees = fees;
            s.renewed = renewed;
            s.ended = ended;
            s.told = new HashMap<>(told);
            s.rates = new HashMap<>(rates);
            s.deeds = new HashMap<>(deeds);
            s.log = new ArrayList<>(log);
            return s;
        }
    }

    private static final class Model {
        int[] rules = new int[14];
        State state = new State();
        State image;
        int shift;
        final int[] refused = new int[4];
        final List<State> undos = new ArrayList<>();
        final List<int[][]> scripts = new ArrayList<>();
        private final Map<Long, Long> memo = new HashMap<>();

        // ---- the loan

        void loan(int[] told) {
            rules = told;
            state = new State();
            state.coupon = told[2];
            state.refunds = told[11];
            image = null;
            undos.clear();
            memo.clear();
        }

        void clauseInstalment(int year, int amount) {
            if (year < years()) {
                state.told.put(year, amount);
            }
        }

        void clauseRate(int year, int height, int rate) {
            if (isNode(year, height)) {
                state.rates.put(year * 100 + height, rate);
            }
        }

        void clearPolicy() {
            state.deeds.clear();
            memo.clear();
        }

        void clausePolicy(int year, int height, int deed) {
            if (isNode(year, height)) {
                state.deeds.put(year * 100 + height, deed);
            }
        }

        int policySize() {
            int n = 0;
            for (int deed : state.deeds.values()) {
                n += deed != 0 ? 1 : 0;
            }
            return n;
        }

        int years() {
            return rules[1];
        }

        boolean isNode(int t, int h) {
            return t >= 0 && t < years() && h >= 0 && h <= t;
        }

        boolean closed() {
            return state.ended;
        }

        int rule(int what) {
            if (what < 0 || what > 13) {
                return -1;
            }
            return what == 2 ? state.coupon : what == 11 ? state.refunds : rules[what];
        }

        int rate(int t, int h) {
            Integer own = state.rates.get(t * 100 + h);
            int plain = Math.min(999, Math.max(0, rules[3] + h * rules[4] - (t - h) * rules[5]));
            return Math.min(999, Math.max(0, (own != null ? own : plain) + shift));
        }

        int left(int t) {
            return t == 0 ? rules[0] : left(t - 1) - instalment(t);
        }

        int instalment(int t) {
            return t == years() ? left(t - 1) : Math.min(left(t - 1), state.told.getOrDefault(t, 0));
        }

        int interest(int t, int coupon) {
            return left(t - 1) * coupon / 1000;
        }

        int due(int t, int coupon) {
            return interest(t, coupon) + instalment(t);
        }

        int price(int t) {
            return left(t) + left(t) * Math.max(0, rules[7] - t * rules[8]) / 1000;
        }

        int year(int t, int what) {
            if (what < 0 || what > 4 || t < 0 || t > years() || t == 0 && what < 3) {
                return -1;
            }
            return what == 0 ? instalment(t) : what == 1 ? interest(t, state.coupon) : what == 2 ? due(t, state.coupon)
                : what == 3 ? left(t) : price(t);
        }

        // ---- costs; how: 0 least, 1 by the policy, 2 always held

        boolean mayCall(int t) {
            return t >= rules[9] && t + rules[10] < years();
        }

        long next(int t, int h, long a, long b) {
            return (rules[6] * a + (100 - rules[6]) * b) * 10 / (1000 + rate(t, h));
        }

        long held(int t, int h, int c, int k, int how) {
            int due = due(t + 1, c);
            return next(t, h, due + cost(t + 1, h + 1, c, k, how), due + cost(t + 1, h, c, k, how));
        }

        long noticed(int t, int h, int[] ckh, int kind, int wait) {
            if (wait > 0) {
                int due = due(t + 1, ckh[0]);
                return next(t, h, due + noticed(t + 1, h + 1, ckh, kind, wait - 1), due + noticed(t + 1, h, ckh, kind, wait - 1));
            }
            if (kind == 1) {
                return price(t);
            }
            int coupon = Math.min(999, rate(t, h) + rules[12]);
            return price(t) - left(t) + rules[13] + cost(t, h, coupon, ckh[1] - 1, ckh[2]);
        }

        /** -1: it may not be. */
        long ofDeed(int t, int h, int c, int k, int how, int deed) {
            if (deed == 0) {
                return held(t, h, c, k, how);
            }
            if (how == 2 || !mayCall(t) || deed == 2 && k == 0) {
                return -1;
            }
            return noticed(t, h, new int[] {c, k, how}, deed, rules[10]);
        }

        int bestDeed(int t, int h, int c, int k, int how) {
            int best = 0;
            for (int deed = 1; deed < 3; deed++) {
                long it = ofDeed(t, h, c, k, how, deed);
                if (it >= 0 && it < ofDeed(t, h, c, k, how, best)) {
                    best = deed;
                }
            }
            return best;
        }

        long cost(int t, int h, int c, int k, int how) {
            if (t == years()) {
                return 0;
            }
            long key = ((((long) t * 13 + h) * 1000 + c) * 3 + k) * 3 + how;
            Long known = memo.get(key);
            if (known != null) {
                return known;
            }
            int deed = how == 0 ? bestDeed(t, h, c, k, how) : how == 2 ? 0 : toldDeed(t, h, k);
            long it = ofDeed(t, h, c, k, how, deed);
            memo.put(key, it);
            return it;
        }

        int toldDeed(int t, int h, int k) {
            int deed = state.deeds.getOrDefault(t * 100 + h, 0);
            return mayCall(t) && (deed < 2 || k > 0) ? deed : 0;
        }

        long costs(int t, int h, int what) {
            if (what < 0 || what > 3) {
                return -1000000;
            }
            if (!isNode(t, h)) {
                return -1;
            }
            return what == 0 ? cost(t, h, state.coupon, state.refunds, 0) : ofDeed(t, h, state.coupon, state.refunds, 0, what - 1);
        }

        int best(int t, int h) {
            return isNode(t, h) ? bestDeed(t, h, state.coupon, state.refunds, 0) : -1;
        }

        // ---- acts

        int act(int sort, int a, int b, int c, boolean loud) {
            State before = state.copy();
            int[] answer = attempt(sort, a, b, c);
            memo.clear();
            if (answer[0] < 0) {
                if (loud) {
                    refused[answer[1]]++;
                }
                return -1;
            }
            undos.add(before);
            if (undos.size() > 40) {
                undos.remove(0);
            }
            state.log.add(new int[] {sort, answer[1], state.paid});
            return answer[0];
        }

        private int[] no(int status) {
            return new int[] {-1, status};
        }

        int[] attempt(int sort, int a, int b, int c) {
            State s = state;
            if (s.ended) {
                return no(0);
            }
            if (sort < 2) {
                return pass(sort == 0 ? 1 : 0);
            }
            if (sort < 4) {
                if (s.kind != 0) {
                    return no(2);
                }
                if (!mayCall(s.t) || sort == 3 && s.refunds == 0) {
                    return no(3);
                }
                return new int[] {notice(sort - 1), s.t};
            }
            if (sort == 4) {
                int still = s.wait;
                if (s.kind == 0) {
                    return no(2);
                }
                s.kind = 0;
                s.wait = 0;
                return new int[] {still, s.t};
            }
            if (sort == 5) {
                if (a <= s.t || a >= years()) {
                    return no(0);
                }
                if (b < 0 || b > 9999) {
                    return no(1);
                }
                int old = s.told.getOrDefault(a, 0);
                s.told.put(a, b);
                return old == b ? no(2) : new int[] {old, a};
            }
            if (sort == 6) {
                if (!canCome(a, b)) {
                    return no(0);
                }
                if (c < 0 || c > 999) {
                    return no(1);
                }
                int old = rate(a, b);
                if (old == c) {
                    return no(2);
                }
                s.rates.put(a * 100 + b, c);
                return new int[] {old, a};
            }
            if (sort == 8) {
                int others = 0;
                Map<Integer, Integer> now = new HashMap<>(s.deeds);
                for (int t = 0; t < years(); t++) {
                    for (int h = 0; h <= t; h++) {
                        if (canCome(t, h) && best(t, h) != deed(t, h)) {
                            others++;
                            now.put(t * 100 + h, best(t, h));
                        }
                    }
                }
                s.deeds = now;
                return others == 0 ? no(2) : new int[] {others, others};
            }
            int deed = sort == 7 ? best(s.t, s.h) : toldDeed(s.t, s.h, s.refunds);
            if (s.kind != 0 || deed == 0) {
                return no(2);
            }
            notice(deed);
            return new int[] {deed, deed + 1};
        }

        boolean canCome(int t, int h) {
            return isNode(t, h) && t >= state.t && h >= state.h && h - state.h <= t - state.t;
        }

        int[] pass(int rise) {
            State s = state;
            int paid = due(s.t + 1, s.coupon);
            s.interest += interest(s.t + 1, s.coupon);
            s.t++;
            s.h += rise;
            s.paid += paid;
            if (s.kind != 0 && --s.wait == 0) {
                paid += carry(s.kind);
            }
            s.ended |= s.t == years();
            return new int[] {paid, s.t};
        }

        int notice(int kind) {
            if (rules[10] == 0) {
                return carry(kind);
            }
            state.kind = kind;
            state.wait = rules[10];
            return 0;
        }

        int carry(int kind) {
            State s = state;
            s.kind = 0;
            s.wait = 0;
            int premium = price(s.t) - left(s.t);
            s.premiums += premium;
            int paid = kind == 1 ? price(s.t) : premium + rules[13];
            if (kind == 1) {
                s.ended = true;
            } else {
                s.fees += rules[13];
                s.coupon = Math.min(999, rate(s.t, s.h) + rules[12]);
                s.refunds--;
                s.renewed++;
            }
            s.paid += paid;
            return paid;
        }

        int undo() {
            if (undos.isEmpty()) {
                return -1;
            }
            state = undos.remove(undos.size() - 1);
            memo.clear();
            return undos.size();
        }

        int log(int i, int what) {
            int size = state.log.size();
            return i < 0 || i >= Math.min(60, size) || what < 0 || what > 2 ? -1000000 : state.log.get(size - 1 - i)[what];
        }

        private long x;

        int draw(int j) {
            x = x * 6364136223846793005L + 1442695040888963407L;
            return (int) ((x >>> 33) % j);
        }

        int years(int n, long seed) {
            if (n < 1 || n > 40) {
                return -1;
            }
            x = seed;
            for (int i = 0; i < n; i++) {
                int sort = draw(8);
                if (sort <= 2) {
                    act(draw(100) >= rules[6] ? 1 : 0, 0, 0, 0, false);
                } else if (sort == 3) {
                    act(7, 0, 0, 0, false);
                } else if (sort == 4) {
                    act(2 + draw(3), 0, 0, 0, false);
                } else if (sort == 5) {
                    int year = draw(12) + 1;
                    int amount = draw(1000);
                    act(5, year, amount, 0, false);
                } else {
                    int year = draw(12);
                    int height = draw(12);
                    int rate = draw(200);
                    act(6, year, height, rate, false);
                }
            }
            return state.paid;
        }

        int image() {
            image = state.copy();
            return state.paid;
        }

        int back() {
            if (image == null) {
                return -1;
            }
            state = image.copy();
            undos.clear();
            memo.clear();
            return state.paid;
        }

        // ---- scripts

        int perform(int script) {
            if (script < 0 || script >= scripts.size()) {
                return -1;
            }
            int[][] steps = scripts.get(script);
            int done = 0;
            while (done < steps.length && act(steps[done][0], steps[done][1], steps[done][2], steps[done][3], false) >= 0) {
                done++;
            }
            return done;
        }

        int run(int script, int what) {
            if (script < 0 || script >= scripts.size() || what < 0 || what > 1) {
                return -1000000;
            }
            State before = state.copy();
            List<State> keep = new ArrayList<>(undos);
            int done = perform(script);
            int paid = state.paid;
            state = before;
            undos.clear();
            undos.addAll(keep);
            memo.clear();
            return what == 1 ? paid : done == scripts.get(script).length ? -1 : done;
        }

        int step(int script, int i, int what) {
            if (script < 0 || script >= scripts.size() || what < 0 || what > 3) {
                return -1000000;
            }
            return i < 0 || i >= scripts.get(script).length ? -1000000 : scripts.get(script)[i][what];
        }

        // ---- what is to come

        /** Does it on a copy of the state, by the acts themselves. */
        int[] wayOf(int moves) {
            State before = state;
            List<State> keep = new ArrayList<>(undos);
            state = before.copy();
            state.kind = 0;
            state.wait = 0;
            state.paid = 0;
            state.renewed = 0;
            boolean called = false;
            for (int i = 0; !state.ended; i++) {
                boolean more = state.kind == 0;
                while (more && !state.ended) {
                    Map<Long, Long> kept = new HashMap<>(memo);
                    int deed = bestDeed(state.t, state.h, state.coupon, state.refunds, 0);
                    more = false;
                    if (deed != 0) {
                        called = deed == 1;
                        notice(deed);
                        more = state.kind == 0;
                    } else {
                        called = false;
                    }
                    memo.putAll(kept);
                }
                if (!state.ended) {
                    pass(moves >> i & 1);
                    // behind notice that has run out the best is asked again at once, on the next turn
                }
            }
            int[] found = {state.paid, state.renewed, state.t, called ? 1 : 0};
            state = before;
            undos.clear();
            undos.addAll(keep);
            return found;
        }

        int way(int moves, int what) {
            return closed() || moves < 0 || what < 0 || what > 2 ? -1 : wayOf(moves)[what];
        }

        int spread(int what) {
            if (closed()) {
                return -1;
            }
            int rows = 1 << (years() - state.t);
            int least = Integer.MAX_VALUE;
            int greatest = 0;
            int called = 0;
            int total = 0;
            Set<Integer> sums = new HashSet<>();
            for (int moves = 0; moves < rows; moves++) {
                int[] way = wayOf(moves);
                least = Math.min(least, way[0]);
                greatest = Math.max(greatest, way[0]);
                called += way[3];
                total += way[0];
                sums.add(way[0]);
            }
            return new int[] {least, greatest, called, sums.size(), total}[what];
        }

        long[][] flow() {
            long[][] mass = new long[years() + 1][years() + 2];
            mass[state.t][state.h] = 1000000000L;
            for (int t = state.t; t < years(); t++) {
                for (int h = 0; h <= t; h++) {
                    if (mass[t][h] > 0 && best(t, h) == 0) {
                        long up = mass[t][h] * rules[6] / 100;
                        mass[t + 1][h + 1] += up;
                        mass[t + 1][h] += mass[t][h] - up;
                    }
                }
            }
            return mass;
        }

        int mass(int t, int h) {
            return closed() || !isNode(t, h) || t < state.t ? -1 : (int) flow()[t][h];
        }

        int ending(int t, int what) {
            if (closed() || t < state.t || t >= years() || what < 0 || what > 1) {
                return -1;
            }
            long sum = 0;
            for (int h = 0; h <= t; h++) {
                sum += best(t, h) == what + 1 ? flow()[t][h] : 0;
            }
            return (int) sum;
        }

        int masses(int what) {
            if (closed() || what < 0 || what > 2) {
                return -1;
            }
            long sum = 0;
            for (int t = state.t; what < 2 && t < years(); t++) {
                sum += ending(t, what);
            }
            for (int h = 0; what == 2 && h <= years(); h++) {
                sum += flow()[years()][h];
            }
            return (int) sum;
        }

        long here(int coupon, int refunds, int how) {
            return cost(state.t, state.h, coupon, refunds, how);
        }

        long worth() {
            return closed() ? -1 : here(state.coupon, state.refunds, 2) - here(state.coupon, state.refunds, 0);
        }

        long saved() {
            return closed() ? -1 : here(state.coupon, 0, 0) - here(state.coupon, state.refunds, 0);
        }

        long margin() {
            if (closed() || !mayCall(state.t)) {
                return -1000000;
            }
            long least = costs(state.t, state.h, 2);
            if (state.refunds > 0) {
                least = Math.min(least, costs(state.t, state.h, 3));
            }
            return costs(state.t, state.h, 1) - least;
        }

        int till() {
            if (closed()) {
                return -1;
            }
            Integer own = state.rates.get(state.t * 100 + state.h);
            int found = -1;
            for (int r = 999; r >= 0 && found < 0; r--) {
                state.rates.put(state.t * 100 + state.h, r);
                memo.clear();
                found = best(state.t, state.h) != 0 ? r : -1;
            }
            state.rates.remove(state.t * 100 + state.h);
            if (own != null) {
                state.rates.put(state.t * 100 + state.h, own);
            }
            memo.clear();
            return found;
        }

        int fair() {
            if (closed()) {
                return -1;
            }
            for (int c = 999; c >= 0; c--) {
                if (here(c, state.refunds, 0) <= left(state.t)) {
                    return c;
                }
            }
            return -1;
        }

        int edge(int t) {
            for (int h = 0; t >= 0 && t < years() && h <= t; h++) {
                if (best(t, h) == 0) {
                    return h;
                }
            }
            return -1;
        }

        int sums(int what) {
            if (closed() || what < 0 || what > 1) {
                return -1;
            }
            int sum = 0;
            for (int t = state.t + 1; t <= years(); t++) {
                sum += what == 0 ? interest(t, state.coupon) : instalment(t);
            }
            return sum;
        }

        long shifted(int n) {
            if (closed() || n < -99 || n > 99) {
                return -1;
            }
            memo.clear();
            shift = n;
            long it = here(state.coupon, state.refunds, 0);
            shift = 0;
            memo.clear();
            return it;
        }

        // ---- the policy

        int deed(int t, int h) {
            return isNode(t, h) ? state.deeds.getOrDefault(t * 100 + h, 0) : -1;
        }

        long byPolicy(int t, int h) {
            return isNode(t, h) ? cost(t, h, state.coupon, state.refunds, 1) : -1;
        }

        long regret() {
            return closed() ? -1 : byPolicy(state.t, state.h) - costs(state.t, state.h, 0);
        }

        int strays(int what) {
            if (closed() || what < 0 || what > 2) {
                return -1;
            }
            List<int[]> found = new ArrayList<>();
            for (int t = 0; t < years(); t++) {
                for (int h = 0; h <= t; h++) {
                    if (canCome(t, h) && toldDeed(t, h, state.refunds) != best(t, h)) {
                        found.add(new int[] {0, t, h});
                    }
                }
            }
            return what == 0 ? found.size() : found.isEmpty() ? -1 : found.get(0)[what];
        }

        int mended(int t, int h) {
            return isNode(t, h) ? bestDeed(t, h, state.coupon, state.refunds, 1) : -1;
        }

        int rounds() {
            return roundsUpTo(20);
        }

        int roundsUpTo(int most) {
            if (closed()) {
                return -1;
            }
            Map<Integer, Integer> keep = state.deeds;
            int n = 0;
            boolean changed = true;
            while (n <= most && changed) {
                Map<Integer, Integer> now = new HashMap<>(state.deeds);
                changed = false;
                for (int t = 0; t < years(); t++) {
                    for (int h = 0; h <= t; h++) {
                        if (canCome(t, h) && mended(t, h) != deed(t, h)) {
                            now.put(t * 100 + h, mended(t, h));
                            changed = true;
                        }
                    }
                }
                state.deeds = now;
                memo.clear();
                n += changed ? 1 : 0;
            }
            state.deeds = keep;
            memo.clear();
            return changed ? -1 : n;
        }

        int most(int what) {
            State s = state;
            int greatest = 0;
            for (int t = 0; t < years(); t++) {
                for (int h = 0; h <= t; h++) {
                    greatest = Math.max(greatest, rate(t, h));
                }
            }
            int[] all = {s.paid, s.interest, s.premiums, s.fees, s.t, s.h, s.ended ? 0 : left(s.t), s.ended ? 1 : 0,
                s.kind, s.wait, s.renewed, greatest};
            return what < 0 || what > 11 ? -1000000 : all[what];
        }
    }
}
