import java.util.function.Consumer;
import java.util.function.ToLongFunction;

/** The edges that promises 25 to 43 name, and ==== 3: what is to come, and the policy. */
public final class EdgesOfOutlookTest {
    /** Held costs 1,100 by the rate; called 1,000 at each node; the rates are 0. */
    private static final String FREE = "lp1000t3c100b0u0d0q50m0s0f0n0k0g0e0";
    /** The same, never to be called. */
    private static final String NEVER = "lp1000t3c100b0u0d0q50m0s0f12n0k0g0e0";
    /** Down in the first year it is best called, up not. */
    private static final String FORK = "lp1000t3c100b100u60d60q30f1m0s0e0k0";
    private static final String FOUR = "lp1000t4c100b50u10d10q40m20s5f1n1k2g3e5;iy2a100";
    private static final int WHOLE = 1000000000;

    public static void main(String[] args) {
        noLoanAndEnded();
        noticeThatRuns();
        ways();
        masses();
        worthAndMargin();
        till();
        edges();
        fair();
        endings();
        savedAndSums();
        deeds();
        byPolicy();
        regretAndStrays();
        mended();
        rounds();
        shifted();
        spread();
        Bench.finish();
    }

    private interface Ask extends ToLongFunction<RefundDesk> {
    }

    /** What answers nothing of no loan, nor of one that has ended: promise, answer then. */
    private static final Object[][] OF_A_LOAN = {{25, Bench.NONE, (Ask) x -> x.way(0, 0)}, {25, Bench.NONE, (Ask) x -> x.way(0, 2)},
        {26, Bench.NONE, (Ask) x -> x.mass(0, 0)}, {26, Bench.NONE, (Ask) x -> x.mass(2, 0)}, {27, Bench.NONE, (Ask) x -> x.masses(0)},
        {27, Bench.NONE, (Ask) x -> x.masses(2)}, {28, Bench.NONE, (Ask) RefundDesk::worth}, {29, Bench.HIDDEN, (Ask) RefundDesk::margin},
        {30, Bench.NONE, (Ask) RefundDesk::till}, {32, Bench.NONE, (Ask) RefundDesk::fair}, {33, Bench.NONE, (Ask) x -> x.ending(0, 0)},
        {33, Bench.NONE, (Ask) x -> x.ending(2, 1)}, {34, Bench.NONE, (Ask) RefundDesk::saved}, {35, Bench.NONE, (Ask) x -> x.sums(0)},
        {35, Bench.NONE, (Ask) x -> x.sums(1)}, {38, Bench.NONE, (Ask) RefundDesk::regret}, {39, Bench.NONE, (Ask) x -> x.strays(0)},
        {39, Bench.NONE, (Ask) x -> x.strays(1)}, {41, Bench.NONE, (Ask) RefundDesk::rounds}, {42, Bench.NONE, (Ask) x -> x.shifted(0)},
        {43, Bench.NONE, (Ask) x -> x.spread(0)}, {43, Bench.NONE, (Ask) x -> x.spread(4)}};
    /** What is asked of nodes of all years: of a loan that has ended, too. */
    private static final Object[][] OF_NODES = {{31, (Ask) x -> x.edge(0)}, {36, (Ask) x -> x.deed(0, 0)}, {37, (Ask) x -> x.byPolicy(0, 0)},
        {40, (Ask) x -> x.mended(0, 0)}, {9, (Ask) x -> x.costs(0, 0, 0)}, {10, (Ask) x -> x.best(0, 0)}};

    private static void noLoanAndEnded() {
        for (Object[] row : OF_A_LOAN) {
            Bench.promise((Integer) row[0]);
            Bench.asked("no loan", desk -> { }, (Ask) row[2], (Integer) row[1]);
            Bench.asked("ended, run through", Bench.loan(FREE, "udu"), (Ask) row[2], (Integer) row[1]);
            Bench.asked("ended, called here", Bench.loan(FREE, "c"), (Ask) row[2], (Integer) row[1]);
            Bench.asked("ended, called with notice", Bench.loan("lt3f0n1", "cu"), (Ask) row[2], (Integer) row[1]);
            RefundDesk undone = Bench.made(Bench.loan(FREE, "c").andThen(RefundDesk::undo));
            Bench.due("its end undone", ((Ask) row[2]).applyAsLong(undone) != (Integer) row[1], true);
        }
        for (Object[] row : OF_NODES) {
            Bench.promise((Integer) row[0]);
            Bench.asked("no loan", desk -> { }, (Ask) row[1], Bench.NONE);
            long want = ((Ask) row[1]).applyAsLong(Bench.with(FREE));
            Bench.asked("ended", Bench.loan(FREE, "uuu"), (Ask) row[1], want);
            Bench.asked("called", Bench.loan(FREE, "c"), (Ask) row[1], want);
        }
    }

    /** As if no notice ran: the same as behind its being withdrawn. */
    private static void noticeThatRuns() {
        Ask[] asks = {x -> x.way(3, 0), x -> x.way(0, 2), x -> x.mass(2, 1), x -> x.masses(0), x -> x.masses(2), RefundDesk::worth, RefundDesk::margin,
            RefundDesk::till, x -> x.edge(2), RefundDesk::fair, x -> x.ending(2, 0), RefundDesk::saved, x -> x.sums(0), x -> x.byPolicy(1, 1),
            RefundDesk::regret, x -> x.strays(0), x -> x.mended(1, 1), RefundDesk::rounds, x -> x.shifted(9), x -> x.spread(4), x -> x.spread(2),
            x -> x.costs(1, 1, 2), x -> x.costs(1, 1, 3), x -> x.best(1, 1)};
        for (String kind : new String[] {"c", "r"}) {
            Consumer<RefundDesk> runs = Bench.loan(FOUR, "u" + kind).andThen(desk -> Bench.take(desk, "py1h1a2;py2h1a1", 2));
            Consumer<RefundDesk> none = Bench.loan(FOUR, "u").andThen(desk -> Bench.take(desk, "py1h1a2;py2h1a1", 2));
            for (int i = 0; i < asks.length; i++) {
                Bench.promise(25);
                Bench.asked("notice runs, question " + i, runs, asks[i], asks[i].applyAsLong(Bench.made(none)));
            }
        }
    }

    private static void whats(String call, Consumer<RefundDesk> state, int first, long refusal, WhatAsk ask) {
        for (int what : new int[] {-1, first, Integer.MIN_VALUE, Integer.MAX_VALUE}) {
            Bench.asked(call + " " + what, state, desk -> ask.of(desk, what), refusal);
        }
        for (int what = 0; what < first; what++) {
            RefundDesk desk = Bench.made(state);
            long found = ask.of(desk, what);
            int one = what;
            Bench.due(call + " " + what + " is there", found != refusal, true);
            Bench.asked(call + " " + what, state, x -> ask.of(x, one), found);
        }
    }

    private interface WhatAsk {
        long of(RefundDesk desk, int what);
    }

    private static void ways() {
        Bench.promise(25);
        whats("way", Bench.loan(FORK), 3, Bench.NONE, (desk, what) -> desk.way(0, what));
        for (int moves : new int[] {-1, Integer.MIN_VALUE, -8}) {
            Bench.asked("way(" + moves + ", 0)", Bench.loan(FORK), desk -> desk.way(moves, 0), Bench.NONE);
        }
        // the lowest bit is the first move: down is called at year 1, up is held to the end
        for (int moves : new int[] {0, 2, 4, 6, 8, 1 << 30, Integer.MAX_VALUE - 1}) {
            Bench.due("way(" + moves + ", 0)", Bench.with(FORK).way(moves, 0), 1100);
            Bench.due("way(" + moves + ", 2)", Bench.with(FORK).way(moves, 2), 1);
        }
        for (int moves : new int[] {1, 3, 5, 7, 9, (1 << 30) + 1, Integer.MAX_VALUE}) {
            Bench.due("way(" + moves + ", 0)", Bench.with(FORK).way(moves, 0), 1300);
            Bench.due("way(" + moves + ", 2)", Bench.with(FORK).way(moves, 2), 3);
        }
        Bench.due("from this node on, what was PAID apart", Bench.with(FORK, "u").way(0, 0), 1200);
        Bench.due("from this node on", Bench.with(FORK, "d").way(7, 0), 1000);
        Bench.due("the YEAR of a call here", Bench.with(FORK, "d").way(7, 2), 1);
        Bench.due("from the last node", Bench.with(NEVER, "ud").way(0, 2), 3);
        // refunded at once, and at year 1 again: rates fall, then rise
        String twice = "lp1000t3c500b100u99d0q100m0s0e1f0k2;xy1h0r10;xy1h1r10";
        Bench.due("two REFUNDS", Bench.with(twice).way(7, 1), 2);
        Bench.due("all that is PAID", Bench.with(twice).way(7, 0), 1 + 100 + 1 + 10 + 1010);
        Bench.due("REFUNDS of the way alone", Bench.with(twice, "r").way(7, 1), 1);
        Bench.due("none left", Bench.with(twice.replace("k2", "k0")).way(7, 1), 0);
        Bench.due("twelve moves", Bench.with("lp1000t12c10f12").way(4095, 2), 12);
        // at year 2 it is called down, held up: behind a year the lowest bit is that move
        String later = "lp1000t3c100b100u60d60q30f2m0s0e0k0;xy2h1r98;xy2h2r500";
        Bench.due("the first move from here on: down", Bench.with(later, "u").way(6, 2), 2);
        Bench.due("the first move from here on: up", Bench.with(later, "u").way(1, 2), 3);
        waysWithNotice();
        waysByActs();
    }

    /** The same by the acts themselves: the best is done till it is refused, then the year passes by its move. */
    private static void waysByActs() {
        String[] loans = {"lp5000t4c150b120u40d45q50f0m10s3e4k2g1", "lp5000t4c150b120u40d45q50f0m10s3e4k1g1", "lp9000t5c90b90u30d30q60f1n1m6s1e9k2",
            "lp9000t4c200b70u30d30q20f0n2m6s1e9k1", "lp9999t5c300b200u20d60q40f0m2s1e1k2;iy2a3000", "lp9999t5c300b200u20d60q40f0m2s1e1k1;iy2a3000"};
        int renewed = 0;
        for (String loan : loans) {
            int rows = 1 << Bench.with(loan).count(0);
            for (int moves = 0; moves < rows; moves++) {
                RefundDesk desk = Bench.with(loan);
                int[] told = {desk.way(moves, 0), desk.way(moves, 1), desk.way(moves, 2)};
                for (int year = 0; year < 12 && desk.most(7) == 0; year++) {
                    for (int i = 0; i < 3 && desk.doBest() >= 0; i++) {
                        continue;
                    }
                    Bench.act(desk, (moves >> year & 1) == 1 ? 'u' : 'd');
                }
                Bench.due(loan + ", moves " + moves + ": PAID", told[0], desk.most(0));
                Bench.due(loan + ", moves " + moves + ": REFUNDS", told[1], desk.most(10));
                Bench.due(loan + ", moves " + moves + ": YEAR", told[2], desk.most(4));
                renewed = Math.max(renewed, told[1]);
            }
        }
        Bench.due("two REFUNDS on a way", renewed, 2);
    }

    /** All rates 0 but those that are told, so calls and refunds are best at once; they run out by the moves. */
    private static void waysWithNotice() {
        for (int notice = 1; notice <= 2; notice++) {
            RefundDesk desk = Bench.with("lp1000t4c100b0u0d0f0m0s0e0k0n" + notice);
            for (int moves = 0; moves < 16; moves++) {
                Bench.due("a call, NOTICE " + notice + ", moves " + moves, desk.way(moves, 0), 1000 + 100 * notice);
                Bench.due("its YEAR", desk.way(moves, 2), notice);
            }
        }
        // refunded at (1, 0) at 3 per mille, at (1, 1) at 7; then the rates are high, and it is held
        String one = "lp1000t3c400b0u0d0f0m0s0e2k1n1;xy1h0r3;xy1h1r7;xy2h0r900;xy2h1r900;xy2h2r900";
        Bench.due("a refund, down", Bench.with(one).way(0, 0), 400 + 2 + 3 + 1003);
        Bench.due("a refund, up", Bench.with(one).way(1, 0), 400 + 2 + 7 + 1007);
        Bench.due("one", Bench.with(one).way(1, 1) * 10 + Bench.with(one).way(1, 2), 13);
        String two = "lp1000t4c400b0u0d0f0m0s0e2k1n2;xy2h0r3;xy2h1r5;xy2h2r8;xy3h0r900;xy3h1r900;xy3h2r900;xy3h3r900";
        int[] coupons = {3, 5, 5, 8};
        for (int moves = 0; moves < 4; moves++) {
            Bench.due("a refund, two years", Bench.with(two).way(moves, 0), 800 + 2 + 2 * coupons[moves] + 1000);
        }
        Bench.due("no REFUNDS: called", Bench.with(two.replace("k1", "k0")).way(0, 0), 1800);
        // sums that are 64 apart
        String apart = one.replace("xy1h1r7", "xy1h1r35");
        Bench.due("least, greatest", Bench.with(apart).spread(0) * 10000 + Bench.with(apart).spread(1), 14081472);
        Bench.due("unlike", Bench.with(apart).spread(3), 2);
        Bench.due("all of them: least", Bench.with(two).spread(0), 1808);
        Bench.due("all of them: greatest", Bench.with(two).spread(1), 1818);
        Bench.due("all of them: unlike", Bench.with(two).spread(3), 3);
        Bench.due("all of them: added up", Bench.with(two).spread(4), 4 * (1808 + 2 * 1812 + 1818));
    }

    private static void masses() {
        Bench.promise(26);
        Consumer<RefundDesk> never = Bench.loan("lt4q33f12", "u");
        int[][] nodes = {{1, 1, WHOLE}, {1, 0, 0}, {2, 1, 670000000}, {2, 2, 330000000}, {2, 0, 0}, {3, 3, 108900000}, {3, 1, 448900000}, {3, 0, 0},
            {0, 0, -1}, {4, 1, -1}, {3, 4, -1}, {3, -1, -1}, {-1, 0, -1}, {1, 2, -1}};
        for (int[] node : nodes) {
            Bench.asked("mass(" + node[0] + ", " + node[1] + ")", never, desk -> desk.mass(node[0], node[1]), node[2]);
        }
        for (int far : Bench.FAR_OFF) {
            Bench.asked("mass(" + far + ", 0)", never, desk -> desk.mass(far, 0), Bench.NONE);
            Bench.asked("mass(2, " + far + ")", never, desk -> desk.mass(2, far), Bench.NONE);
        }
        // cut to nothing: 10 of them by 1 in 100 go down all
        RefundDesk one = Bench.with("lt12q1f12");
        int[] up = {WHOLE, 10000000, 100000, 1000, 10, 0, 0};
        for (int t = 0; t < up.length; t++) {
            Bench.due("mass(" + t + ", " + t + ")", one.mass(t, t), up[t]);
        }
        Bench.due("ODDS 0", Bench.with("lt12q0f12").mass(11, 0), WHOLE);
        Bench.due("ODDS 100", Bench.with("lt12q100f12").mass(11, 11), WHOLE);
        for (int odds : new int[] {1, 33, 50, 77, 99}) {
            RefundDesk desk = Bench.with("lt12f12q" + odds);
            for (int t = 0; t < 12; t++) {
                long sum = 0;
                for (int h = 0; h <= t; h++) {
                    sum += desk.mass(t, h);
                }
                Bench.due("none is lost at year " + t, sum, WHOLE);
            }
        }
        Bench.due("called here: it goes no further", Bench.with(FREE).mass(1, 1) + Bench.with(FREE).mass(1, 0), 0);
        Bench.due("it is at the node where it is called", Bench.with(FORK).mass(1, 0), 700000000);
        Bench.due("and no further", Bench.with(FORK).mass(2, 0), 0);

        Bench.promise(27);
        whats("masses", Bench.loan(FORK), 3, Bench.NONE, (desk, what) -> desk.masses(what));
        long[][] rows = {{700000000, 0, 300000000}, {0, 0, WHOLE}, {WHOLE, 0, 0}, {0, WHOLE, 0}};
        String[] loans = {FORK, NEVER, FREE, "lp1000t9c200b10u1d1f0m0e0k1"};
        for (int i = 0; i < loans.length; i++) {
            for (int what = 0; what < 3; what++) {
                Bench.due("masses(" + what + ") of " + loans[i], Bench.with(loans[i]).masses(what), rows[i][what]);
            }
        }
        Bench.due("called in the last year that can be", Bench.with(FREE.replace("f0", "f2")).masses(0), WHOLE);
        Bench.due("from the last node", Bench.with(NEVER, "uu").masses(2), WHOLE);
        // one year, 1,100 by the rate: at 98 called, at 99 held
        for (int rate = 97; rate <= 100; rate++) {
            RefundDesk desk = Bench.with("lp1000t1c100m0f0k0b" + rate);
            Bench.due("CALLED at " + rate, desk.masses(0), rate < 99 ? WHOLE : 0);
            Bench.due("to the end at " + rate, desk.masses(2), rate < 99 ? 0 : WHOLE);
            Bench.due("ending at " + rate, desk.ending(0, 0), rate < 99 ? WHOLE : 0);
            Bench.due("rounds at " + rate, desk.rounds(), rate < 99 ? 1 : 0);
            Bench.due("mended at " + rate, desk.mended(0, 0), rate < 99 ? 1 : 0);
            Bench.due("edge at " + rate, desk.edge(0), rate < 99 ? Bench.NONE : 0);
            Bench.due("strays at " + rate, desk.strays(0), rate < 99 ? 1 : 0);
            Bench.due("regret at " + rate, desk.regret(), rate < 98 ? 2 : rate < 99 ? 1 : 0);
            Bench.due("mass behind it at " + rate, Bench.with(FREE + ";xr" + rate).mass(1, 0), rate < 99 ? 0 : WHOLE / 2);
            Bench.due("adopt at " + rate, desk.adopt(), rate < 99 ? 1 : Bench.NONE);
        }
    }

    private static void worthAndMargin() {
        Bench.promise(28);
        Object[][] rows = {{FREE, "", 300}, {FREE, "u", 200}, {FREE, "uu", 100}, {NEVER, "", 0}, {NEVER, "uu", 0}, {FREE.replace("c100", "c0"), "", 0}};
        for (Object[] row : rows) {
            Bench.asked("worth of " + row[0] + row[1], Bench.loan((String) row[0], (String) row[1]), RefundDesk::worth, (Integer) row[2]);
        }
        Bench.promise(29);
        // 1,100 by the rate: 1,001 at 98, 1,000 at 99 and 100, 999 at 101
        Object[][] margins = {{FREE + ";xr98", 1}, {FREE + ";xr99", 0}, {FREE + ";xr100", 0}, {FREE + ";xr101", -1}, {NEVER, Bench.HIDDEN},
            {FREE.replace("f0", "f1"), Bench.HIDDEN}, {FREE.replace("f0n0", "f0n2"), 100}};
        for (Object[] row : margins) {
            Bench.asked("margin of " + row[0], Bench.loan((String) row[0]), RefundDesk::margin, (Integer) row[1]);
        }
        Bench.asked("at FIRST", Bench.loan(FREE.replace("f0", "f1"), "u"), RefundDesk::margin, 100);
        Bench.asked("the last year for it", Bench.loan(FREE.replace("n0", "n1"), "d"), RefundDesk::margin, 100);
        Bench.asked("too late", Bench.loan(FREE.replace("n0", "n1"), "dd"), RefundDesk::margin, Bench.HIDDEN);
        String rises = "lp1000t2c100b0u50d0q100f0m10s0";
        // called 1,010; refunded 10, the fee, 952; held 100 and 1,010 at year 1 (called there)
        Bench.due("REFUNDED is the lesser one", Bench.with(rises + "e47k1").margin(), 1110 - 1009);
        Bench.due("both alike", Bench.with(rises + "e48k1").margin(), 1110 - 1010);
        Bench.due("CALLED is the lesser one", Bench.with(rises + "e49k1").margin(), 1110 - 1010);
        Bench.due("no REFUNDS", Bench.with(rises + "e0k0").margin(), 1110 - 1010);
        Bench.due("none left", Bench.with("lp1000t1c0b0f0m10e0k1", "r").margin(), 1000 - 1010);
    }

    private static void till() {
        Bench.promise(30);
        Object[][] rows = {{FREE, 98}, {FREE.replace("c100", "c1"), 0}, {FREE.replace("c100", "c0"), Bench.NONE}, {NEVER, Bench.NONE},
            {FREE.replace("f0", "f1"), Bench.NONE}, {FREE.replace("c100", "c999"), 997}, {FREE.replace("n0", "n1").replace("c100", "c999"), 999},
            {FREE + ";xr999", 98}, {FREE + ";xr98", 98}};
        for (Object[] row : rows) {
            Bench.asked("till of " + row[0], Bench.loan((String) row[0]), RefundDesk::till, (Integer) row[1]);
        }
        Bench.asked("998, the most without NOTICE", Bench.loan("lp9999t3c999b0u0d0m0s0f0n0k0"), RefundDesk::till, 998);
        // with NOTICE: held 2,203 just so, refunded 2,202.99; at no greater rate do the cuts part them
        Bench.asked("0 alone, with NOTICE", Bench.loan("lp2199t2c2q1f0n1k1m0e0g0;iy1a1699;xy1h1r1;xy1h0r2"), RefundDesk::till, 0);
        Bench.asked("at FIRST", Bench.loan(FREE.replace("f0", "f1"), "u"), RefundDesk::till, 98);
        Bench.asked("of this NODE", Bench.loan(FREE + ";xy1h0r500", "d"), RefundDesk::till, 98);
        Bench.asked("too late", Bench.loan(FREE.replace("n0", "n1"), "dd"), RefundDesk::till, Bench.NONE);
        tillByEachCoupon(1000);
        tillByEachCoupon(9999);
        String[] loans = {"lp9999t4c90b40u20d20q30f0m7s2e3k2g1", "lp777t5c60b50u9d9q60f0n1m9s1e2k1g2", "lp5000t4c70b60u30d5f0m0s0e40k1;iy2a900",
            "lp9999t3c300b100u10d40q10f0n2m3e0k2", "lp7620t2c3b6u3d23q20m10s9f0n1k2g1e6", "lp22t3c92b31u16d2q99m15s2f0n1k0g3e8",
            "lp2199t2c2q1f0n1k1m0e0g0;iy1a1699;xy1h1r1;xy1h0r2",
            // by the cuts a refund is best at a rate, not at each one below it
            "lp30t4c358b41u8d4q56m3s0f0n0k2g0e1;xy3h1r495;xy3h0r905", "lp35t5c567b50u26d13q98m0s0f0n0k2g1e2",
            "lp762t2c326b49u65d8q12m0s0f0n0k1g1e0;xy1h0r226;iy1a22", "lp50t4c438b61u7d38q46m0s0f0n0k1g2e1"};
        for (String loan : loans) {
            for (String acts : new String[] {"", "u", "d"}) {
                tillByTrying(loan, acts);
            }
        }
    }

    /** One year: PRINCIPAL and INTEREST, by the rate and cut, is more than PRINCIPAL, which a call costs. */
    private static void tillByEachCoupon(int principal) {
        for (int coupon = 0; coupon <= 999; coupon++) {
            int due = principal + principal * coupon / 1000;
            int want = Bench.NONE;
            for (int rate = 0; rate <= 999; rate++) {
                want = due * 1000 / (1000 + rate) > principal ? rate : want;
            }
            Bench.due("till of " + principal + " by the COUPON " + coupon, Bench.with("lt1b0m0f0k0c" + coupon + "p" + principal).till(), want);
        }
    }

    /** At the rate that it tells held is not best; at each greater one it is. */
    private static void tillByTrying(String loan, String acts) {
        int year = acts.length();
        int height = acts.replace("d", "").length();
        int till = Bench.with(loan, acts).till();
        int found = Bench.NONE;
        for (int from = 0; from < 1000; from += 200) {
            RefundDesk desk = Bench.with(loan, acts);
            for (int rate = from; rate < from + 200; rate++) {
                desk.tell(year, height, rate);
                found = desk.best(year, height) != 0 ? rate : found;
            }
        }
        Bench.due("till of " + loan + " " + acts, till, found);
    }

    private static void edges() {
        Bench.promise(31);
        Consumer<RefundDesk> fork = Bench.loan(FORK, "u");
        int[][] rows = {{0, 0}, {1, 1}, {2, 1}, {-1, -1}, {3, -1}, {Integer.MAX_VALUE, -1}, {Integer.MIN_VALUE, -1}};
        for (int[] row : rows) {
            Bench.asked("edge(" + row[0] + ")", fork, desk -> desk.edge(row[0]), row[1]);
        }
        for (int year = 0; year < 3; year++) {
            Bench.due("at none: edge(" + year + ")", Bench.with(FREE).edge(year), Bench.NONE);
            Bench.due("at each: edge(" + year + ")", Bench.with(NEVER).edge(year), 0);
        }
        Bench.due("the highest alone", Bench.with(FREE + ";xy2h2r500").edge(2), 2);
        Bench.due("the lowest of them", Bench.with(FREE + ";xy2h0r500;xy2h2r500").edge(2), 0);
        Bench.due("twelve YEARS", Bench.with("lt12f12").edge(11), 0);
        Bench.due("twelve YEARS", Bench.with("lt12f12").edge(12), Bench.NONE);
    }

    private static void fair() {
        Bench.promise(32);
        Object[][] rows = {{"lp1000t1b50f12", 51}, {"lp1000t1b0f12", 0}, {"lp999t1b0f12", 1}, {"lp1t1b0f12", 999}, {"lp2t1b0f12", 499},
            {"lp1000t1b999f12", 999}, {"lp1000t1b998f12", 999}, {"lp1000t1b997f12", 998}, {FREE, 999}, {"lp1000t1b0f0m0", 999}, {"lp1000t1b0f0m1k0", 0}};
        for (Object[] row : rows) {
            Bench.asked("fair of " + row[0], Bench.loan((String) row[0]), RefundDesk::fair, (Integer) row[1]);
        }
        // one year: 1,000 and the coupon, by the rate, is 1,000 at most
        for (int rate = 0; rate <= 999; rate++) {
            int want = Bench.NONE;
            for (int coupon = 0; coupon <= 999; coupon++) {
                want = (1000 + coupon) * 1000 / (1000 + rate) <= 1000 ? coupon : want;
            }
            Bench.due("fair by the RATE " + rate, Bench.with("lp1000t1f12b" + rate).fair(), want);
        }
        String loan = "lp1000t3b50u20d10q40f12;iy1a300";
        RefundDesk desk = Bench.with(loan, "u");
        int fair = desk.fair();
        String at = loan.replace("lp", "lc" + fair + "p");
        String above = loan.replace("lp", "lc" + (fair + 1) + "p");
        Bench.due("no more than what is LEFT", Bench.with(at, "u").costs(1, 1, 0) <= 700, true);
        Bench.due("the next one costs more", Bench.with(above, "u").costs(1, 1, 0) > 700, true);
        Bench.due("nothing LEFT", Bench.with("lp1000t3f12;iy1a1000", "u").fair(), 999);
    }

    private static void endings() {
        Bench.promise(33);
        Consumer<RefundDesk> fork = Bench.loan(FORK);
        int[][] rows = {{0, 0, 0}, {1, 0, 700000000}, {2, 0, 0}, {1, 1, 0}, {2, 1, 0}, {3, 0, -1}, {-1, 0, -1}, {1, 2, -1}, {1, -1, -1}, {3, 1, -1},
            {Integer.MAX_VALUE, 0, -1}, {Integer.MIN_VALUE, 0, -1}, {1, Integer.MAX_VALUE, -1}, {1, Integer.MIN_VALUE, -1}};
        for (int[] row : rows) {
            Bench.asked("ending(" + row[0] + ", " + row[1] + ")", fork, desk -> desk.ending(row[0], row[1]), row[2]);
        }
        Consumer<RefundDesk> later = Bench.loan(FREE, "ud");
        Bench.asked("past", later, desk -> desk.ending(1, 0), Bench.NONE);
        Bench.asked("this year", later, desk -> desk.ending(2, 0), WHOLE);
        Bench.asked("REFUNDED", Bench.loan("lp1000t9c200b10u1d1f0m0e0k1"), desk -> desk.ending(0, 1), WHOLE);
        Bench.asked("not CALLED", Bench.loan("lp1000t9c200b10u1d1f0m0e0k1"), desk -> desk.ending(0, 0), 0);
        Bench.asked("this node's mass alone", Bench.loan(FORK, "u"), desk -> desk.ending(1, 0), 0);
        Bench.asked("twelve YEARS", Bench.loan("lt12f12"), desk -> desk.ending(11, 0), 0);
        Bench.asked("twelve YEARS", Bench.loan("lt12f12"), desk -> desk.ending(12, 0), Bench.NONE);
    }

    private static void savedAndSums() {
        Bench.promise(34);
        String rises = "lp1000t2c100b0u50d0q100f0m10s0";
        Object[][] rows = {{rises + "e0k1", 1010 - 962}, {rises + "e47k1", 1}, {rises + "e48k1", 0}, {rises + "e49k1", 0}, {rises + "e0k0", 0}};
        for (Object[] row : rows) {
            Bench.asked("saved of " + row[0], Bench.loan((String) row[0]), RefundDesk::saved, (Integer) row[1]);
        }
        Bench.asked("none left", Bench.loan(rises + "e0k1", "r"), RefundDesk::saved, 0);
        // one year: called 10,998; refunded 999, and 9,999 and what is cut of its interest, by the rate
        for (int rate : new int[] {0, 1, 2, 999}) {
            int renewed = 999 + (9999 + 9999 * rate / 1000) * 1000 / (1000 + rate);
            int held = (9999 + 9989) * 1000 / (1000 + rate);
            int without = Math.min(held, 10998);
            Bench.asked("saved at " + rate, Bench.loan("lp9999t1c999m100e0f0k1b" + rate), RefundDesk::saved, without - Math.min(without, renewed));
        }

        Bench.promise(35);
        Consumer<RefundDesk> state = Bench.loan("lp1000t3c100;iy1a400;iy2a9999");
        whats("sums", state, 2, Bench.NONE, (desk, what) -> desk.sums(what));
        int[][] want = {{160, 1000}, {60, 600}, {0, 0}};
        for (int year = 0; year < 3; year++) {
            for (int what = 0; what < 2; what++) {
                int one = what;
                Bench.asked("behind " + year + ": sums(" + what + ")", Bench.loan("lp1000t3c100;iy1a400;iy2a9999", "uu".substring(0, year)),
                    desk -> desk.sums(one), want[year][what]);
            }
        }
        Bench.due("the last year alone", Bench.with("lp1000t3c100", "uu").sums(0), 100);
        Bench.due("by the COUPON now", Bench.with("lp1000t2c100b30f0", "r").sums(0), 60);
        Bench.due("the most", Bench.with("lp9999t12c999").sums(0), 12 * 9989);
    }

    private static Consumer<RefundDesk> policy(String loan, String acts, String text) {
        return Bench.loan(loan, acts).andThen(desk -> Bench.take(desk, text, 2));
    }

    private static void deeds() {
        Bench.promise(36);
        Consumer<RefundDesk> state = policy(FREE, "u", "pa2;py1h0a1;py2h2a1;py2h1a0");
        int[][] rows = {{0, 0, 2}, {1, 0, 1}, {1, 1, 0}, {2, 2, 1}, {2, 1, 0}, {2, 0, 0}, {3, 0, -1}, {0, 1, -1}, {2, 3, -1}, {-1, 0, -1}, {2, -1, -1},
            {Integer.MAX_VALUE, 0, -1}, {Integer.MIN_VALUE, 0, -1}, {2, Integer.MAX_VALUE, -1}, {2, Integer.MIN_VALUE, -1}};
        for (int[] row : rows) {
            Bench.asked("deed(" + row[0] + ", " + row[1] + ")", state, desk -> desk.deed(row[0], row[1]), row[2]);
        }
        StringBuilder most = new StringBuilder();
        for (int h = 0; h < 12; h++) {
            most.append(h > 0 ? ";" : "").append("py11h").append(h).append('a').append(h % 3).append(";py10h").append(h).append('a').append(2 - h % 3);
        }
        RefundDesk desk = Bench.made(policy("lt12", "", most.toString()));
        for (int h = 0; h < 12; h++) {
            Bench.due("deed(11, " + h + ")", desk.deed(11, h), h % 3);
            Bench.due("deed(10, " + h + ")", desk.deed(10, h), h < 11 ? 2 - h % 3 : Bench.NONE);
        }
    }

    private static void byPolicy() {
        Bench.promise(37);
        // held costs 100 a year more than called; what may not be is held
        Object[][] rows = {{"p", 1300}, {"pa1", 1000}, {"py1h0a1;py1h1a1", 1100}, {"py2h0a1;py2h1a1;py2h2a1", 1200}, {"py1h1a1", 1200}, {"pa2", 1300}};
        for (Object[] row : rows) {
            Bench.asked("byPolicy(0, 0) of " + row[0], policy(FREE, "", (String) row[0]), desk -> desk.byPolicy(0, 0), (Integer) row[1]);
        }
        Bench.asked("ahead of FIRST", policy(FREE.replace("f0", "f1"), "", "pa1"), desk -> desk.byPolicy(0, 0), 1300);
        Bench.asked("at FIRST", policy(FREE.replace("f0", "f1"), "", "py1h0a1"), desk -> desk.byPolicy(1, 0), 1000);
        Bench.asked("the last year for it", policy(FREE.replace("n0", "n2"), "", "pa1"), desk -> desk.byPolicy(0, 0), 1200);
        Bench.asked("too late", policy(FREE.replace("n0", "n2"), "", "py1h0a1"), desk -> desk.byPolicy(1, 0), 1200);
        // refunded: 7 and the fee of 1, then at 0 per mille, the deed of the node again while REFUNDS are left
        String dear = "lp1000t2c100b0u0d0m7s0f0e1";
        Bench.asked("no REFUNDS: held", policy(dear + "k0", "", "pa2"), desk -> desk.byPolicy(0, 0), 1200);
        Bench.asked("one", policy(dear + "k1", "", "pa2"), desk -> desk.byPolicy(0, 0), 8 + 1000);
        Bench.asked("two", policy(dear + "k2", "", "pa2"), desk -> desk.byPolicy(0, 0), 8 + 8 + 1000);
        Bench.asked("the other nodes of the new loan", policy(dear + "k1", "", "pa2;py1h0a1;py1h1a1"), desk -> desk.byPolicy(0, 0), 8 + 1007);
        for (int[] node : new int[][] {{3, 0}, {0, 1}, {2, 3}, {-1, 0}, {2, -1}, {Integer.MAX_VALUE, 0}, {2, Integer.MIN_VALUE}}) {
            Bench.asked("byPolicy(" + node[0] + ", " + node[1] + ")", Bench.loan(FREE, "u"), desk -> desk.byPolicy(node[0], node[1]), Bench.NONE);
            Bench.asked("mended(" + node[0] + ", " + node[1] + ")", Bench.loan(FREE, "u"), desk -> desk.mended(node[0], node[1]), Bench.NONE);
        }
        Bench.asked("past", policy(FREE, "u", "pa1"), desk -> desk.byPolicy(0, 0), 1000);
        toldAnew();
        // deeds of all twelve years are others at once: told nothing, adopted, undone, told nothing again
        RefundDesk twelve = Bench.with("lp1000t12c200b0u0d0m0s0f0n0k0e0");
        Bench.due("held twelve years", twelve.byPolicy(0, 0), 1000 + 12 * 200);
        Bench.due("all are adopted", twelve.adopt(), 78);
        Bench.due("called at once", twelve.byPolicy(0, 0), 1000);
        Bench.due("no regret", twelve.regret() * 100 + twelve.strays(0), 0);
        twelve.undo();
        Bench.due("undone", twelve.byPolicy(0, 0), 1000 + 12 * 200);
        twelve.adopt();
        Bench.due("adopted again", twelve.byPolicy(11, 11), 1000);
        Bench.due("nothing is told", Bench.take(twelve, "p", 2), 0);
        Bench.due("held again", twelve.byPolicy(11, 11), 1200);
        Bench.due("held again", twelve.byPolicy(0, 0), 1000 + 12 * 200);
    }

    /** Asked, then a rate or an instalment is told anew, the deeds as they were: what it costs then, and undone. */
    private static void toldAnew() {
        // held three years at 0: 1,300; at 100 per mille here: 1,181
        RefundDesk desk = Bench.with(NEVER);
        Bench.due("at first", desk.byPolicy(0, 0), 1300);
        desk.tell(0, 0, 100);
        Bench.due("a rate told anew", desk.byPolicy(0, 0), 1300 * 1000 / 1100);
        desk.undo();
        Bench.due("undone", desk.byPolicy(0, 0), 1300);
        desk.instal(1, 500);
        Bench.due("an instalment told anew", desk.byPolicy(0, 0), 1000 + 100 + 50 + 50);
        Bench.due("shifted", desk.shifted(99) < 1200, true);
        Bench.due("not by the policy", desk.byPolicy(0, 0), 1200);
        desk.undo();
        Bench.due("undone", desk.byPolicy(0, 0), 1300);
    }

    private static void regretAndStrays() {
        Bench.promise(38);
        Bench.asked("as told nothing", Bench.loan(FREE), RefundDesk::regret, 300);
        Bench.asked("a year later", Bench.loan(FREE, "u"), RefundDesk::regret, 200);
        Bench.asked("none", policy(FREE, "", "pa1"), RefundDesk::regret, 0);
        Bench.asked("none, adopted", Bench.loan(FREE, "a"), RefundDesk::regret, 0);
        for (int rate : new int[] {40, 41, 42, 43}) {
            Bench.asked("at " + rate, Bench.loan("lp9999t1c200m0e0f0k0b" + rate), RefundDesk::regret, (9999 + 1999) * 1000 / (1000 + rate) - 9999);
        }
        Bench.asked("of one unit", policy(FREE + ";xr98", "", "py1a1;py1h1a1"), RefundDesk::regret, 1);

        Bench.promise(39);
        whats("strays", Bench.loan(FREE), 3, Bench.NONE, (desk, what) -> desk.strays(what));
        Object[][] rows = {{FREE, "", "p", 6, 0, 0}, {FREE, "", "pa1", 5, 1, 0}, {FREE, "u", "p", 3, 1, 1}, {FREE, "u", "py1h1a1", 2, 2, 1},
            {FREE, "u", "py1h1a1;py2h1a1", 1, 2, 2}, {FREE, "u", "py1h1a1;py2h1a1;py2h2a1", 0, -1, -1}, {FREE, "ud", "p", 1, 2, 1},
            {NEVER, "", "pa1;py1a2;py2h2a1", 0, -1, -1}, {FREE, "", "pa2;py1a1;py1h1a1;py2a1;py2h1a1;py2h2a1", 1, 0, 0},
            {FREE + ";xr99", "", "pa2;py1a1;py1h1a1;py2a1;py2h1a1;py2h2a1", 0, -1, -1}};
        for (Object[] row : rows) {
            for (int what = 0; what < 3; what++) {
                int one = what;
                Bench.asked("strays(" + what + ") of " + row[0] + row[1] + " " + row[2], policy((String) row[0], (String) row[1], (String) row[2]),
                    desk -> desk.strays(one), (Integer) row[3 + what]);
            }
        }
    }

    private static void mended() {
        Bench.promise(40);
        Object[][] rows = {{FREE, "p", 0, 0, 1}, {FREE, "p", 2, 2, 1}, {NEVER, "pa1", 0, 0, 0}, {FREE.replace("f0", "f1"), "p", 0, 0, 0},
            {FREE.replace("f0", "f1"), "p", 1, 0, 1}, {FREE.replace("n0", "n1"), "p", 2, 0, 0}, {FREE.replace("n0", "n1"), "p", 1, 0, 1},
            // 1,300 in all by the rate, were it held always; 1,100 if the year 1 is called
            {FREE + ";xr298", "p", 0, 0, 1}, {FREE + ";xr299", "p", 0, 0, 0}, {FREE + ";xr98", "py1a1;py1h1a1", 0, 0, 1},
            {FREE + ";xr99", "py1a1;py1h1a1", 0, 0, 0}};
        for (Object[] row : rows) {
            Bench.asked("mended(" + row[2] + ", " + row[3] + ") of " + row[0] + " " + row[1], policy((String) row[0], "", (String) row[1]),
                desk -> desk.mended((Integer) row[2], (Integer) row[3]), (Integer) row[4]);
        }
        // refunded 10, the fee, 952; called 1,010; held far more
        String rises = "lp1000t2c100b0u50d0q100f0m10s0";
        Bench.asked("REFUNDED", Bench.loan(rises + "e47k1"), desk -> desk.mended(0, 0), 2);
        Bench.asked("of several", Bench.loan(rises + "e48k1"), desk -> desk.mended(0, 0), 1);
        Bench.asked("no REFUNDS", Bench.loan(rises + "e0k0"), desk -> desk.mended(0, 0), 1);
        // the new loan goes by the deed of its node: called at once it is dearer than to be called without a refund
        Bench.asked("by the deed of the node", policy(rises + "e47k1", "", "pa1"), desk -> desk.mended(0, 0), 1);
    }

    private static void rounds() {
        Bench.promise(41);
        Bench.asked("adopted", Bench.loan(FREE, "a"), RefundDesk::rounds, 0);
        Bench.asked("none to change", Bench.loan(NEVER), RefundDesk::rounds, 0);
        Bench.asked("once", Bench.loan(FREE), RefundDesk::rounds, 1);
        Bench.asked("one deed that may not be", policy(NEVER, "", "pa1"), RefundDesk::rounds, 1);
        Bench.asked("one that can't be come to", policy(NEVER, "u", "pa1;py1a1;py2a1"), RefundDesk::rounds, 0);
        Bench.asked("nor one above", policy(NEVER, "d", "pa1;py1h1a1;py2h2a1"), RefundDesk::rounds, 0);
        Bench.asked("the lowest that can be", policy(NEVER, "u", "py2h1a1"), RefundDesk::rounds, 1);
        Bench.asked("the highest that can be", policy(NEVER, "d", "py2h1a1"), RefundDesk::rounds, 1);
        Bench.asked("of this node", policy(NEVER, "u", "py1h1a1"), RefundDesk::rounds, 1);
        Bench.asked("twice", Bench.loan("lp1000t3c100b100u0d0f0m0s0e0k0;xy2h0r0;xy2h1r0;xy2h2r0"), RefundDesk::rounds, 2);
        String endless = "lp5883t11c184b83u53d14q97m6s1f2n0k2g6e4;xy6h6r50;xy0h0r124;xy9h8r185;xy6h3r165;xy1h1r32;xy3h3r152;xy5h1r17";
        String deeds = "py3h0a1;py7h6a1;py2h0a2;py10h0a1;py2h1a1;py4h4a2;py7h4a2;py8h6a1;pa1;py2h2a1";
        Bench.asked("without an end", policy(endless, "", deeds), RefundDesk::rounds, Bench.NONE);
        // found by searching; AgainstModelTest counts both without a bound
        Bench.asked("twenty", policy("lp468t12c88b34u6d93q86m31s43f0n0k2g3e1;xy8h6r183;xy4h2r167", "", "py11h2a1;py10h6a2"), RefundDesk::rounds, 20);
        Bench.asked("twenty-one", policy("lp2707t12c184b42u15d99q96m11s55f0n0k1g2e1;xy3h0r838", "",
            "py11h11a1;py2h0a1;py7h6a1;py7h7a1;py10h4a2;py11h5a1;pa1;py2h1a2;py3h1a2;py8h4a2;py1h0a2"), RefundDesk::rounds, Bench.NONE);
        // the same by mending through the face: as many texts as rounds
        String[] loans = {"lp9999t5c150b150u60d40q30f0m3s1e2k0", "lp9999t5c150b150u60d40q30f0m3s1e2k1", "lp7777t5c120b100u90d30q60f0m0s0e9k2n1",
            "lp9000t4c90b140u10d70q50f0m0s0e0k0;xy3h0r0;xy3h1r0;xy3h2r0;xy3h3r0"};
        for (String loan : loans) {
            Bench.due("by texts: " + loan, Bench.with(loan).rounds(), roundsByTexts(loan));
        }
    }

    private static int roundsByTexts(String loan) {
        String told = "p";
        for (int n = 0; n <= 20; n++) {
            RefundDesk desk = Bench.made(policy(loan, "", told));
            StringBuilder next = new StringBuilder("p");
            boolean changed = false;
            for (int t = 0; t < desk.count(0); t++) {
                for (int h = 0; h <= t; h++) {
                    int deed = desk.mended(t, h);
                    changed |= deed != desk.deed(t, h);
                    next.append(deed != 0 ? ";py" + t + "h" + h + "a" + deed : "");
                }
            }
            if (!changed) {
                return n;
            }
            told = next.toString();
        }
        return Bench.NONE;
    }

    private static void shifted() {
        Bench.promise(42);
        Consumer<RefundDesk> state = Bench.loan("lp1000t1c0b50f12");
        Object[][] rows = {{0, 952}, {1, 951}, {-1, 953}, {99, 870}, {98, 871}, {-50, 1000}, {-49, 999}, {-51, 1000}, {-99, 1000}};
        for (Object[] row : rows) {
            Bench.asked("shifted(" + row[0] + ")", state, desk -> desk.shifted((Integer) row[0]), (Integer) row[1]);
        }
        for (int n : new int[] {100, -100, Integer.MIN_VALUE, Integer.MAX_VALUE}) {
            Bench.asked("shifted(" + n + ")", state, desk -> desk.shifted(n), Bench.NONE);
        }
        Bench.due("999 just so", Bench.with("lp9999t1c0b900f12").shifted(99), 9999 * 1000 / 1999);
        Bench.due("999 at most", Bench.with("lp9999t1c0b901f12").shifted(99), 9999 * 1000 / 1999);
        Bench.due("998", Bench.with("lp9999t1c0b900f12").shifted(98), 9999 * 1000 / 1998);
        // the rate of (1, 0) is 0 at least ahead of the shift, too
        Bench.due("what is shifted is the RATE", Bench.with("lp1000t2c0b0u0d99q0f12").shifted(10), 1000 * 1000 / 1010 * 1000 / 1010);
        for (int n : new int[] {-99, -30, 30, 99}) {
            String loan = "lp5000t3c80f0m10s2e5k2g2b";
            Bench.due("new coupons, too", Bench.with(loan + "200u20d20").shifted(n), Bench.with(loan + (200 + n) + "u20d20").costs(0, 0, 0));
            Bench.due("from this node on", Bench.with(loan + "200u20d20", "u").shifted(n), Bench.with(loan + (200 + n) + "u20d20", "u").costs(1, 1, 0));
        }
    }

    private static void spread() {
        Bench.promise(43);
        whats("spread", Bench.loan(FORK), 5, Bench.NONE, (desk, what) -> desk.spread(what));
        Object[][] rows = {{FORK, "", 1100, 1300, 4, 2, 4 * 1100 + 4 * 1300}, {FORK, "u", 1200, 1200, 0, 1, 4 * 1200}, {FORK, "d", 1000, 1000, 4, 1, 4000},
            {NEVER, "uu", 1100, 1100, 0, 1, 2200}, {NEVER, "", 1300, 1300, 0, 1, 8 * 1300}, {FREE, "uu", 1000, 1000, 2, 1, 2000},
            {"lt1p7c0f12", "", 7, 7, 0, 1, 14}, {"lp9999t12c999f12", "", 129867, 129867, 0, 1, 4096 * 129867},
            {"lp1000t9c200b10u20d0f0m0e7k1", "", 1097, 1097, 0, 1, 512 * 1097}};
        for (Object[] row : rows) {
            for (int what = 0; what < 5; what++) {
                int one = what;
                Bench.asked("spread(" + what + ") of " + row[0] + row[1], Bench.loan((String) row[0], (String) row[1]), desk -> desk.spread(one),
                    (Integer) row[2 + what]);
            }
        }
        for (int principal : new int[] {63, 64, 65, 127, 128, 129}) {
            Bench.due("sums of " + principal, Bench.with("lt2c0f12p" + principal).spread(3), 1);
        }
        int[] nothing = {0, 0, 0, 1, 0};
        for (int what = 0; what < 5; what++) {
            int one = what;
            Bench.asked("nothing is LEFT to be PAID: spread(" + what + ")", Bench.loan("lp5t3f12;iy1a5", "u"), desk -> desk.spread(one), nothing[what]);
        }
        // what was found a year ago does not stay
        RefundDesk later = Bench.with(NEVER);
        Bench.due("at first", later.spread(1) * 10 + later.spread(3), 13001);
        later.up();
        Bench.due("a year later", later.spread(1) * 10 + later.spread(3), 12001);
        later.up();
        Bench.due("two years later", later.spread(0) * 10 + later.spread(2), 11000);
        spreadByWays("lp5000t5c90b80u30d20q50f1m5s1e3k2g1", "");
        spreadByWays("lp5000t6c120b60u25d15q40f1n1m5s1e3k2g1;iy2a500", "u");
        spreadByWays("lp9999t7c60b60u10d20q70f2n2m9s3e9k1", "");
    }

    private static void spreadByWays(String loan, String acts) {
        RefundDesk desk = Bench.with(loan, acts);
        int rows = 1 << desk.rule(1) - acts.length();
        java.util.Set<Integer> unlike = new java.util.HashSet<>();
        int least = Integer.MAX_VALUE;
        int greatest = 0;
        int all = 0;
        int called = 0;
        for (int moves = 0; moves < rows; moves++) {
            int paid = desk.way(moves, 0);
            // a call always runs out ahead of the last YEAR
            called += desk.way(moves, 2) < desk.rule(1) ? 1 : 0;
            unlike.add(paid);
            least = Math.min(least, paid);
            greatest = Math.max(greatest, paid);
            all += paid;
        }
        long[] want = {least, greatest, called, unlike.size(), all};
        for (int what = 0; what < 5; what++) {
            Bench.due("spread(" + what + ") of " + loan, Bench.with(loan, acts).spread(what), want[what]);
        }
    }
}
