import java.math.BigInteger;
import java.util.function.Consumer;

/** The edges that promises 21 and 45 to 50 name: years by draws, scripts run and done, images, counts. */
public final class EdgesOfRunsTest {
    private static final String FOUR = "lp1000t4c100b50u10d10q40m20s5f1n1k2g3e5;iy2a100";
    private static final String[] STEPS = {"u", "d", "c", "r", "w", "i3,5", "x3,2,9", "b", "a", "f"};

    public static void main(String[] args) {
        yearsAsked();
        draws();
        oddsOfADraw();
        running();
        runningStops();
        performing();
        most();
        images();
        back();
        backToAFullLog();
        counts();
        Bench.finish();
    }

    // ---- 21

    private static void yearsAsked() {
        Bench.promise(21);
        Consumer<RefundDesk> state = Bench.loan(FOUR, "ur");
        for (int n : new int[] {0, 41, -1, Integer.MIN_VALUE, Integer.MAX_VALUE}) {
            Bench.refused("years(" + n + ", 5)", state, desk -> desk.years(n, 5), Bench.NONE, Bench.UNCOUNTED);
        }
        for (int n : new int[] {0, 1, 40, 41}) {
            Bench.refused("no loan: years(" + n + ", 5)", desk -> { }, desk -> desk.years(n, 5), Bench.NONE, Bench.UNCOUNTED);
        }
        Consumer<RefundDesk> ended = Bench.loan(FOUR, "uuuu");
        Bench.refused("ended: PAID", ended, desk -> desk.years(40, 5), Bench.made(ended).most(0), Bench.UNCOUNTED);
        Bench.refused("ended: 41", ended, desk -> desk.years(41, 5), Bench.NONE, Bench.UNCOUNTED);
        RefundDesk desk = Bench.taken("one", state, x -> x.years(1, seedOfUp(0)) - x.most(0), 0);
        Bench.due("one act", desk.count(4), 3);
        Bench.due("UP", desk.log(0, 0), 0);
    }

    private static BigInteger drawn = BigInteger.ZERO;

    /** By whole numbers without an end, so that going round and the missing sign are told anew. */
    private static int draw(int of) {
        BigInteger round = BigInteger.ONE.shiftLeft(64);
        drawn = drawn.multiply(new BigInteger("6364136223846793005")).add(new BigInteger("1442695040888963407")).mod(round);
        return drawn.shiftRight(33).mod(BigInteger.valueOf(of)).intValue();
    }

    private static void seed(long seed) {
        drawn = BigInteger.valueOf(seed).mod(BigInteger.ONE.shiftLeft(64));
    }

    private static void draws() {
        long[] seeds = {0, 1, -1, 2, Long.MAX_VALUE, Long.MIN_VALUE, Long.MAX_VALUE - 1, Long.MIN_VALUE + 1, 1L << 32, 1L << 33, -(1L << 33), 7777777777L};
        String[] loans = {"lt12c90q30f0n1k2", "lp9999t12c60q70f3k2n0m5e1", "lt5q0f0n2", "lt3q100f0n0k2", "lt1", "lt12q50f12"};
        for (String loan : loans) {
            for (long seed : seeds) {
                for (int n : new int[] {1, 2, 39, 40}) {
                    RefundDesk one = Bench.with(loan);
                    RefundDesk two = Bench.with(loan);
                    int paid = one.years(n, seed);
                    seed(seed);
                    for (int i = 0; i < n; i++) {
                        drawnAct(two);
                    }
                    String call = loan + ": years(" + n + ", " + seed + ")";
                    Bench.due(call, paid, two.most(0));
                    Bench.same(call, Bench.outline(one), Bench.outline(two));
                    Bench.due("no STATUS", one.status(0) + one.status(1) + one.status(2) + one.status(3), 0);
                    for (int i = 0; i < 40; i += 3) {
                        Bench.due("log(" + i + ", 0)", one.log(i, 0), two.log(i, 0));
                        Bench.due("log(" + i + ", 1)", one.log(i, 1), two.log(i, 1));
                    }
                }
            }
        }
    }

    private static void drawnAct(RefundDesk desk) {
        int sort = draw(8);
        if (sort <= 2) {
            Bench.act(desk, draw(100) >= desk.rule(6) ? 'd' : 'u');
        } else if (sort == 3) {
            desk.doBest();
        } else if (sort == 4) {
            Bench.act(desk, "crw".charAt(draw(3)));
        } else if (sort == 5) {
            int year = draw(12) + 1;
            desk.instal(year, draw(1000));
        } else {
            int year = draw(12);
            int height = draw(12);
            desk.tell(year, height, draw(200));
        }
    }

    /** A seed by which the first draw is a year, and the draw of 100 behind it is this one. */
    private static long seedOfUp(int want) {
        for (long seed = 0; seed < 100000; seed++) {
            seed(seed);
            if (draw(8) <= 2 && draw(100) == want) {
                return seed;
            }
        }
        return -1;
    }

    private static void oddsOfADraw() {
        for (int drawnOdds : new int[] {0, 1, 49, 50, 98, 99}) {
            long seed = seedOfUp(drawnOdds);
            for (int odds : new int[] {0, drawnOdds, drawnOdds + 1, 100}) {
                RefundDesk desk = Bench.with("lt3q" + odds);
                desk.years(1, seed);
                Bench.due("a draw of " + drawnOdds + ", ODDS " + odds, desk.most(4) * 10 + desk.most(5), drawnOdds < odds ? 11 : 10);
            }
        }
    }

    // ---- 45, 46

    private static Consumer<RefundDesk> script(Consumer<RefundDesk> state, String text) {
        return state.andThen(desk -> {
            if (Bench.take(desk, text, 1) != 0) {
                Bench.due("the script " + text + " is taken", 0, 1);
            }
        });
    }

    private static void running() {
        Bench.promise(45);
        Consumer<RefundDesk> state = script(Bench.loan(FOUR, "u"), "d;u;u");
        Bench.asked("all can be", state, desk -> desk.run(0, 0), Bench.NONE);
        Bench.asked("PAID", state, desk -> desk.run(0, 1), 100 + 200 + 90 + 990);
        int[][] no = {{1, 0}, {-1, 0}, {4, 0}, {0, 2}, {0, -1}, {Integer.MAX_VALUE, 0}, {Integer.MIN_VALUE, 1}, {0, Integer.MAX_VALUE}, {0, Integer.MIN_VALUE}};
        for (int[] one : no) {
            Bench.asked("run(" + one[0] + ", " + one[1] + ")", state, desk -> desk.run(one[0], one[1]), Bench.HIDDEN);
        }
        Bench.asked("no loan", desk -> Bench.take(desk, "u", 1), desk -> desk.run(0, 0), Bench.HIDDEN);
        Bench.asked("no loan", desk -> Bench.take(desk, "u", 1), desk -> desk.run(0, 1), Bench.HIDDEN);
        Bench.asked("one too many", script(Bench.loan(FOUR, "u"), "d;u;u;u"), desk -> desk.run(0, 0), 3);
        Bench.asked("PAID behind three", script(Bench.loan(FOUR, "u"), "d;u;u;u"), desk -> desk.run(0, 1), 1380);
        Bench.asked("ended", script(Bench.loan(FOUR, "uuuu"), "a"), desk -> desk.run(0, 0), 0);
        Bench.asked("ended: PAID", script(Bench.loan(FOUR, "uuuu"), "a"), desk -> desk.run(0, 1), 1380);
        String twelve = "u;u;u;u;u;u;u;u;u;u;u;u";
        Bench.asked("twelve", script(Bench.loan("lp1000t12c10"), twelve), desk -> desk.run(0, 0), Bench.NONE);
        Bench.asked("sixteen", script(Bench.loan("lp1000t12c10"), twelve + ";u;u;u;u"), desk -> desk.run(0, 0), 12);
        Bench.asked("sixteen that can be", script(Bench.loan("lp1000t12c10"), "x0,0,1;x0,0,2;x0,0,3;x0,0,4;" + twelve), desk -> desk.run(0, 0), Bench.NONE);
        Bench.asked("notice that runs", script(Bench.loan(FOUR, "uc"), "w;r;d"), desk -> desk.run(0, 0), Bench.NONE);
        Bench.asked("of its own", script(Bench.loan(FOUR, "u"), "c;u;d"), desk -> desk.run(0, 0), 2);
        Bench.asked("PAID at its end", script(Bench.loan(FOUR, "u"), "c;u;d"), desk -> desk.run(0, 1), 100 + 200 + 909);
    }

    /** Of each sort of step one that can't be, as the first and behind another. */
    private static void runningStops() {
        String[] cant = {"c", "r", "w", "i0,5", "i1,5", "i4,5", "i9999,5", "i2,100", "i3,0", "x0,0,5", "x2,0,5", "x4,1,5", "x1,1,60", "x1,1,1000",
            "x1,1,9999", "x9999,0,0", "x1,9999,0", "b", "f"};
        for (String step : cant) {
            // at (1, 1) of a loan that is never called
            String loan = FOUR.replace("f1", "f12");
            for (String ahead : new String[] {"", "x3,2,7;", "x3,2,7;x3,2,8;i3,9;x3,2,9;"}) {
                int steps = ahead.length() - ahead.replace(";", "").length();
                // behind i3,9 the step i3,0 can be
                boolean can = step.equals("i3,0") && steps > 2;
                int done = can ? steps + 1 : steps;
                Consumer<RefundDesk> state = script(Bench.loan(loan, "u"), ahead + step);
                Bench.asked("run of " + ahead + step, state, desk -> desk.run(0, 0), can ? Bench.NONE : steps);
                Bench.asked("PAID of it", state, desk -> desk.run(0, 1), 100);
                RefundDesk desk = Bench.taken("perform of " + ahead + step, state, x -> x.perform(0), done);
                Bench.due("acts", desk.count(4), 1 + done);
            }
        }
        for (int sort = 0; sort < 10; sort++) {
            Bench.asked("ended: " + STEPS[sort], script(Bench.loan(FOUR, "uuuu"), STEPS[sort]), desk -> desk.run(0, 0), 0);
        }
    }

    private static void performing() {
        Bench.promise(46);
        for (int script : new int[] {1, -1, 4, Integer.MIN_VALUE, Integer.MAX_VALUE}) {
            Bench.refused("perform(" + script + ")", script(Bench.loan(FOUR, "u"), "u"), desk -> desk.perform(script), Bench.NONE, Bench.UNCOUNTED);
        }
        Bench.refused("no loan", desk -> Bench.take(desk, "u", 1), desk -> desk.perform(0), Bench.NONE, Bench.UNCOUNTED);
        Bench.refused("ended", script(Bench.loan(FOUR, "uuuu"), "u"), desk -> desk.perform(0), 0, Bench.UNCOUNTED);
        Bench.refused("the first can't be", script(Bench.loan(FOUR, "u"), "w;u"), desk -> desk.perform(0), 0, Bench.UNCOUNTED);
        RefundDesk desk = Bench.taken("all", script(Bench.loan(FOUR, "u"), "d;u;u"), x -> x.perform(0), 3);
        Bench.due("ended", desk.most(7), 1);
        Bench.due("each is an act", desk.count(4) * 10 + desk.count(3), 44);
        Bench.due("each can be undone", desk.undo(), 3);
        Bench.due("it goes on again", desk.most(7) * 10 + desk.most(4), 3);
        desk = Bench.taken("up to the one that can't be", script(Bench.loan(FOUR, "u"), "d;u;u;u;u"), x -> x.perform(0), 3);
        Bench.due("each is an act", desk.count(4), 4);
        // the same as by the face itself
        String text = "d;i3,50;x3,2,9;r;a;w;c;w;r;u";
        RefundDesk one = Bench.made(script(Bench.loan(FOUR), text));
        RefundDesk two = Bench.made(script(Bench.loan(FOUR), text));
        Bench.due("run tells as much", one.run(0, 0) < 0 ? 10 : one.run(0, 0), one.perform(0));
        two.down();
        two.instal(3, 50);
        two.tell(3, 2, 9);
        two.refund();
        two.adopt();
        two.withdraw();
        two.call();
        two.withdraw();
        two.refund();
        two.up();
        Bench.same("by the face", Bench.picture(one), Bench.picture(two));
        String sixteen = "x0,0,1;x0,0,2;x0,0,1;x0,0,2;x0,0,1;x0,0,2;x0,0,1;x0,0,2;x0,0,1;x0,0,2;x0,0,1;x0,0,2;x0,0,1;x0,0,2;x0,0,1;x0,0,2";
        desk = Bench.made(script(Bench.loan("lt2"), sixteen));
        for (int turn = 1; turn <= 5; turn++) {
            Bench.due("sixteen", desk.perform(0), 16);
            Bench.due("at most 40 can be undone", desk.count(4), Math.min(40, 16 * turn));
            Bench.due("at most 60 are in the LOG", desk.count(3), Math.min(60, 16 * turn));
        }
    }

    // ---- 47 to 50

    private static void most() {
        Bench.promise(47);
        Consumer<RefundDesk> state = Bench.loan(FOUR + ";xy3h0r888", "uruc");
        // 100; 200 and 9 and 5, the coupon 73 from then on; notice of a call
        int[] want = {314, 200, 9, 5, 2, 2, 900, 0, 1, 1, 1, 888};
        for (int what = 0; what < 12; what++) {
            int one = what;
            Bench.asked("most(" + what + ")", state, desk -> desk.most(one), want[what]);
            Bench.due("no loan: most(" + what + ")", new RefundDesk().most(what), Bench.HIDDEN);
        }
        // 65 and 900 and 5 per mille of it, cut
        int[] ended = {314 + 65 + 904, 265, 13, 5, 3, 2, 0, 1, 0, 0, 1, 888};
        for (int what = 0; what < 12; what++) {
            int one = what;
            Bench.asked("ended: most(" + what + ")", state.andThen(RefundDesk::down), desk -> desk.most(one), ended[what]);
        }
        for (int what : new int[] {-1, 12, Integer.MIN_VALUE, Integer.MAX_VALUE}) {
            Bench.asked("most(" + what + ")", state, desk -> desk.most(what), Bench.HIDDEN);
            Bench.due("no loan: most(" + what + ")", new RefundDesk().most(what), Bench.HIDDEN);
        }
        int[] first = {0, 0, 0, 0, 0, 0, 1000, 0, 0, 0, 0, 80};
        for (int what = 0; what < 12; what++) {
            Bench.due("at first: most(" + what + ")", Bench.with(FOUR).most(what), first[what]);
        }
        Bench.due("the greatest RATE of the last node", Bench.with("lt12b0u0d0;xy11h11r7").most(11), 7);
        Bench.due("of the first node", Bench.with("lt1b9").most(11), 9);
        for (int years = 1; years <= 12; years++) {
            Consumer<RefundDesk> free = Bench.loan("lb0u0d0t" + years).andThen(x -> Bench.take(x, "pa2;py11h11a2", 2));
            Bench.due("all RATES are 0, DEEDS are not, YEARS " + years, Bench.made(free).most(11), 0);
        }
        Bench.due("of no other loan", Bench.made(Bench.loan("lt12b999").andThen(Bench.loan("lt2b9u0d0"))).most(11), 9);
        Bench.due("LEFT behind an instalment of all", Bench.with("lp5t3;iy1a9", "u").most(6), 0);
        Bench.due("it has not ended so", Bench.with("lp5t3;iy1a9", "u").most(7), 0);
        RefundDesk desk = Bench.with("lt5f0n2", "r");
        Bench.due("REFUND's notice", desk.most(8) * 10 + desk.most(9), 22);
        desk.up();
        Bench.due("a year later", desk.most(8) * 10 + desk.most(9), 21);
        desk.up();
        Bench.due("run out", desk.most(8) * 10 + desk.most(9), 0);
        Bench.due("REFUNDS done", desk.most(10), 1);
    }

    private static void images() {
        Bench.promise(48);
        Bench.refused("no loan", desk -> { }, RefundDesk::image, Bench.NONE, Bench.UNCOUNTED);
        Consumer<RefundDesk> state = Bench.loan(FOUR, "ur");
        Bench.refused("an image changes nothing that is seen", state, RefundDesk::image, 100, Bench.UNCOUNTED);
        Bench.refused("ended", Bench.loan(FOUR, "uuuu"), RefundDesk::image, 1380, Bench.UNCOUNTED);
        RefundDesk desk = Bench.made(state);
        desk.image();
        desk.up();
        Bench.due("instead of the one ahead", desk.image(), 314);
        desk.up();
        Bench.due("BACK to the later one", desk.back(), 314);
        Bench.due("YEAR", desk.most(4), 2);
        desk = Bench.made(state);
        desk.image();
        desk.undo();
        desk.undo();
        Bench.due("undone behind it, then BACK", desk.back() * 10 + desk.most(4), 1001);
        Bench.due("notice runs", desk.most(8), 2);
    }

    private static void back() {
        Bench.promise(49);
        Bench.refused("no loan", desk -> { }, RefundDesk::back, Bench.NONE, Bench.UNCOUNTED);
        Bench.refused("no image", Bench.loan(FOUR, "ur"), RefundDesk::back, Bench.NONE, Bench.UNCOUNTED);
        Consumer<RefundDesk> other = Bench.loan(FOUR, "u").andThen(desk -> {
            desk.image();
            Bench.take(desk, FOUR, 0);
            desk.up();
        });
        Bench.refused("an image of another loan", other, RefundDesk::back, Bench.NONE, Bench.UNCOUNTED);
        Bench.due("an image of this one then", Bench.made(other.andThen(RefundDesk::image)).back(), 100);
        Consumer<RefundDesk> state = Bench.loan(FOUR, "ur").andThen(desk -> {
            Bench.take(desk, "py1h1a1;py3h3a2", 2);
            desk.instal(3, 77);
            desk.tell(3, 3, 11);
        });
        String[] later = {"u", "dwcd", "w", "a", "uuu", "wcu"};
        for (String acts : later) {
            RefundDesk now = Bench.made(state.andThen(RefundDesk::image));
            for (int i = 0; i < acts.length(); i++) {
                Bench.act(now, acts.charAt(i));
            }
            now.instal(3, 5);
            now.tell(3, 2, 5);
            Bench.take(now, "py2h2a2", 2);
            Bench.due("BACK behind " + acts, now.back(), 100);
            RefundDesk plain = Bench.made(state);
            same(now, plain);
            Bench.due("none can be undone", now.count(4), 0);
            Bench.due("none can be undone", now.undo(), Bench.NONE);
            Bench.due("BACK again", now.back(), 100);
            same(now, plain);
            now.up();
            Bench.due("one can be", now.undo(), 0);
            same(now, plain);
        }
        for (int undone = 1; undone <= 4; undone++) {
            RefundDesk now = Bench.made(state.andThen(RefundDesk::image));
            for (int i = 0; i < undone; i++) {
                now.undo();
            }
            now.tell(3, 3, 12);
            now.instal(3, 8);
            now.withdraw();
            Bench.due("BACK behind " + undone + " undone and others done", now.back(), 100);
            same(now, Bench.made(state));
        }
        RefundDesk desk = Bench.made(Bench.loan(FOUR, "u").andThen(RefundDesk::image));
        Bench.due("at once", desk.back(), 100);
        Bench.due("no act can be undone", desk.undo(), Bench.NONE);
        Bench.due("the LOG", desk.count(3), 1);
        desk = Bench.made(Bench.loan(FOUR, "uuuu").andThen(RefundDesk::image));
        desk.undo();
        Bench.due("BACK to the end", desk.back() * 10 + desk.most(7), 13801);
    }

    /** The LOG as it was with the image, however many acts were logged there and have been since. */
    private static void backToAFullLog() {
        for (int ahead : new int[] {59, 60, 61, 99, 100, 101}) {
            for (int since : new int[] {1, 40, 60, 100, 101}) {
                RefundDesk desk = Bench.with("lt12b0");
                tellRates(desk, 1, ahead);
                desk.image();
                tellRates(desk, ahead + 1, ahead + since);
                String when = ahead + " acts, an image, " + since + " more";
                Bench.due(when + ", BACK", desk.back(), 0);
                Bench.due(when + ": none can be undone", desk.count(4), 0);
                Bench.due(when + ": none is undone", desk.undo(), Bench.NONE);
                logged(when + ", BACK", desk, ahead);
                // what is done then is undone down to the image and no further
                tellRates(desk, ahead + 1, ahead + 1);
                logged(when + ", BACK, one more", desk, ahead + 1);
                Bench.due(when + ": it is undone", desk.undo(), 0);
                logged(when + ", BACK, one undone", desk, ahead);
                Bench.due(when + ": no more", desk.undo(), Bench.NONE);
                Bench.due(when + ": the rate", Bench.rateOf(desk, ahead % 12, 0), ahead);
            }
        }
        RefundDesk desk = Bench.with("lt12b0");
        tellRates(desk, 1, 100);
        desk.image();
        desk.back();
        tellRates(desk, 101, 141);
        for (int left = 39; left >= 0; left--) {
            Bench.due("41 behind BACK: undo()", desk.undo(), left);
        }
        logged("41 behind BACK, 40 undone", desk, 101);
        Bench.due("no more", desk.undo(), Bench.NONE);
    }

    /** The n-th act tells the rate n, of the years by turns, so that the LOG tells which act it was. */
    private static void tellRates(RefundDesk desk, int from, int until) {
        for (int n = from; n <= until; n++) {
            desk.tell(n % 12, 0, n);
        }
    }

    private static void logged(String when, RefundDesk desk, int acts) {
        int length = Math.min(60, acts);
        Bench.due(when + ": count(3)", desk.count(3), length);
        for (int i = 0; i < length; i++) {
            Bench.due(when + ": log(" + i + ", 1)", desk.log(i, 1), (acts - i) % 12);
        }
        Bench.due(when + ": log(" + length + ", 1)", desk.log(length, 1), Bench.HIDDEN);
    }

    /** All but how many acts can be undone. */
    private static void same(RefundDesk got, RefundDesk want) {
        for (int what = 0; what < 14; what++) {
            Bench.due("rule(" + what + ")", got.rule(what), want.rule(what));
        }
        for (int what = 0; what < 12; what++) {
            Bench.due("most(" + what + ")", got.most(what), want.most(what));
        }
        Bench.due("count(3)", got.count(3), want.count(3));
        for (int i = 0; i <= want.count(3); i++) {
            for (int what = 0; what < 3; what++) {
                Bench.due("log(" + i + ", " + what + ")", got.log(i, what), want.log(i, what));
            }
        }
        for (int t = 0; t < 4; t++) {
            Bench.due("year(" + (t + 1) + ", 0)", got.year(t + 1, 0), want.year(t + 1, 0));
            for (int h = 0; h <= t; h++) {
                Bench.due("rate(" + t + ", " + h + ")", got.rate(t, h), want.rate(t, h));
                Bench.due("deed(" + t + ", " + h + ")", got.deed(t, h), want.deed(t, h));
            }
        }
    }

    private static void counts() {
        Bench.promise(50);
        Consumer<RefundDesk> state = Bench.loan(FOUR, "ur").andThen(desk -> {
            Bench.take(desk, "u", 1);
            Bench.take(desk, "d", 1);
            Bench.take(desk, "d", 1);
            desk.undo();
            desk.call();
            desk.call();
            desk.undo();
            Bench.feed(desk, "lt9;;");
        });
        int[] want = {4, 3, 5, 1, 1};
        for (int what = 0; what < 5; what++) {
            int one = what;
            Bench.asked("count(" + what + ")", state, desk -> desk.count(one), want[what]);
            Bench.due("of a new object", new RefundDesk().count(what), 0);
        }
        for (int what : new int[] {-1, 5, Integer.MIN_VALUE, Integer.MAX_VALUE}) {
            Bench.asked("count(" + what + ")", state, desk -> desk.count(what), Bench.HIDDEN);
            Bench.due("of a new object", new RefundDesk().count(what), Bench.HIDDEN);
        }
        Bench.due("the most YEARS", Bench.with("lt12").count(0), 12);
        Bench.due("ended, too", Bench.with("lt2", "uu").count(0), 2);
        Bench.due("the fewest", Bench.with("lt1").count(0), 1);
    }
}
