import java.util.function.Consumer;

/** The edges that promises 6 to 10 name, and ==== 2: rules, rates, years, costs. */
public final class EdgesOfLoanTest {
    private static final String LOAN = "lp1000t4c100b50u10d10q40m20s5f1n1k2g3e5;iy1a100;xy2h1r77";
    private static final Consumer<RefundDesk> GOING = Bench.loan(LOAN, "uru");

    public static void main(String[] args) {
        rules();
        rates();
        rateBounds();
        yearsAndWhats();
        instalments();
        interest();
        prices();
        costsAsked();
        whereItMayBe();
        next();
        noticeCosts();
        newCoupon();
        best();
        anotherCoupon();
        Bench.finish();
    }

    private static void rules() {
        Bench.promise(6);
        int[] told = {1000, 4, 80, 50, 10, 10, 40, 20, 5, 1, 1, 1, 3, 5};
        for (int what = 0; what < 14; what++) {
            int one = what;
            // refunded with notice at year 1, run out at (2, 2), where the rate is 70, and 3; ended or not
            Bench.asked("rule(" + what + ")", GOING, desk -> desk.rule(one), what == 2 ? 73 : told[what]);
            Bench.asked("ended: rule(" + what + ")", GOING.andThen(desk -> Bench.acts(desk, "uu")), desk -> desk.rule(one),
                what == 2 ? 73 : told[what]);
            Bench.due("no loan", new RefundDesk().rule(what), Bench.NONE);
        }
        for (int what : new int[] {-1, 14, -2, 15, Integer.MIN_VALUE, Integer.MAX_VALUE}) {
            Bench.asked("rule(" + what + ")", GOING, desk -> desk.rule(what), Bench.NONE);
        }
        RefundDesk desk = Bench.with(LOAN, "ur");
        Bench.due("notice runs: COUPON", desk.rule(2), 100);
        Bench.due("notice runs: REFUNDS", desk.rule(11), 2);
        desk.up();
        desk.undo();
        Bench.due("undone: COUPON", desk.rule(2), 100);
        Bench.due("undone: REFUNDS", desk.rule(11), 2);
        desk = Bench.with("lt3f0k2b70g1", "rr");
        Bench.due("REFUNDS", desk.rule(11), 0);
        Bench.due("COUPON", desk.rule(2), 71);
    }

    private static void rates() {
        Bench.promise(7);
        for (int years = 1; years <= 12; years++) {
            RefundDesk desk = Bench.with("lt" + years + "b500u1d20");
            for (int t = -1; t <= years + 1; t++) {
                for (int h = -1; h <= t + 1; h++) {
                    boolean there = t >= 0 && t < years && h >= 0 && h <= t;
                    int want = there ? 500 + h - (t - h) * 20 : Bench.THROWN;
                    Bench.due("YEARS " + years + ": rate(" + t + ", " + h + ")", Bench.rateOf(desk, t, h), want);
                }
            }
        }
        int[][] no = {{4, 0}, {0, 1}, {3, 4}, {-1, 0}, {0, -1}, {Integer.MAX_VALUE, 0}, {0, Integer.MAX_VALUE}, {Integer.MIN_VALUE, 0},
            {3, Integer.MIN_VALUE}, {Integer.MAX_VALUE, Integer.MAX_VALUE}, {65536, 65536}};
        for (int[] node : no) {
            Bench.asked("rate(" + node[0] + ", " + node[1] + ")", GOING, desk -> Bench.rateOf(desk, node[0], node[1]), Bench.THROWN);
            Bench.due("no loan", Bench.rateOf(new RefundDesk(), node[0], node[1]), Bench.THROWN);
        }
        Bench.asked("rate(3, 3)", GOING, desk -> Bench.rateOf(desk, 3, 3), 80);
        Bench.asked("past", GOING, desk -> Bench.rateOf(desk, 0, 0), 50);
        Bench.asked("not to be come to", GOING, desk -> Bench.rateOf(desk, 3, 0), 20);
        Bench.asked("told", GOING, desk -> Bench.rateOf(desk, 2, 1), 77);
        Bench.due("no loan", Bench.rateOf(new RefundDesk(), 0, 0), Bench.THROWN);
    }

    private static void rateBounds() {
        Bench.due("999 just so", Bench.rateOf(Bench.with("lt2b900u99"), 1, 1), 999);
        Bench.due("998", Bench.rateOf(Bench.with("lt2b899u99"), 1, 1), 998);
        Bench.due("999 at most", Bench.rateOf(Bench.with("lt2b901u99"), 1, 1), 999);
        Bench.due("far more", Bench.rateOf(Bench.with("lt12b999u99"), 11, 11), 999);
        Bench.due("1", Bench.rateOf(Bench.with("lt2b11d10"), 1, 0), 1);
        Bench.due("0 just so", Bench.rateOf(Bench.with("lt2b10d10"), 1, 0), 0);
        Bench.due("0 at least", Bench.rateOf(Bench.with("lt2b9d10"), 1, 0), 0);
        Bench.due("far less", Bench.rateOf(Bench.with("lt12b0d99"), 11, 0), 0);
        Bench.due("bounds are asked of the whole", Bench.rateOf(Bench.with("lt3b0u60d50"), 2, 1), 10);
        Bench.due("bounds are asked of the whole", Bench.rateOf(Bench.with("lt3b990u99d99"), 2, 1), 990);
        Bench.due("told 999", Bench.rateOf(Bench.with("lt2b0;xr999"), 0, 0), 999);
        Bench.due("told 0", Bench.rateOf(Bench.with("lt2b9;xr0"), 0, 0), 0);
    }

    private static void yearsAndWhats() {
        Bench.promise(8);
        Consumer<RefundDesk> state = Bench.loan("lp1000t3c100m20s5;iy1a100;iy2a300", "u");
        int[][] want = {{-1, -1, -1, 1000, 1020}, {100, 100, 200, 900, 913}, {300, 90, 390, 600, 606}, {600, 60, 660, 0, 0}};
        for (int year = 0; year <= 3; year++) {
            for (int what = 0; what < 5; what++) {
                int[] one = {year, what};
                Bench.asked("year(" + year + ", " + what + ")", state, desk -> desk.year(one[0], one[1]), want[year][what]);
            }
        }
        for (int what = 0; what < 5; what++) {
            for (int year : new int[] {-1, 4, 13, Integer.MIN_VALUE, Integer.MAX_VALUE}) {
                int one = what;
                Bench.asked("year(" + year + ", " + what + ")", state, desk -> desk.year(year, one), Bench.NONE);
            }
            Bench.due("no loan", new RefundDesk().year(0, what), Bench.NONE);
            Bench.due("no loan", new RefundDesk().year(1, what), Bench.NONE);
        }
        for (int what : new int[] {-1, 5, Integer.MIN_VALUE, Integer.MAX_VALUE}) {
            for (int year = 0; year <= 3; year++) {
                int one = year;
                Bench.asked("year(" + year + ", " + what + ")", state, desk -> desk.year(one, what), Bench.NONE);
            }
        }
        RefundDesk one = Bench.with("lp7t1c999");
        Bench.due("of one YEAR: INSTALMENT", one.year(1, 0), 7);
        Bench.due("DUE", one.year(1, 2), 7 + 6);
        Bench.due("twelve", Bench.with("lt12").year(12, 0), 1000);
        Bench.due("thirteen", Bench.with("lt12").year(13, 3), Bench.NONE);
        Bench.due("ended, too", Bench.with("lp1000t2c50", "uu").year(2, 2), 1050);
    }

    private static void instalments() {
        int[][] rows = {{999, 999, 1, 0}, {1000, 1000, 0, 0}, {1001, 1000, 0, 0}, {9999, 1000, 0, 0}, {0, 0, 1000, 1}};
        for (int[] row : rows) {
            RefundDesk desk = Bench.with("lp1000t3;iy1a" + row[0]);
            Bench.due("INSTALMENT of " + row[0], desk.year(1, 0), row[1]);
            Bench.due("the last one", desk.year(3, 0), 1000 - row[1]);
            Bench.due("LEFT", desk.year(1, 3), 1000 - row[1]);
            Bench.due("LEFT at last", desk.year(3, 3), 0);
        }
        RefundDesk desk = Bench.with("lp1000t4;iy1a600;iy2a399;iy3a2");
        Bench.due("two of them", desk.year(2, 0), 399);
        Bench.due("what is LEFT at most", desk.year(3, 0), 1);
        Bench.due("nothing is LEFT", desk.year(4, 0) + desk.year(3, 3), 0);
        desk.instal(2, 400);
        Bench.due("all of it", desk.year(2, 0), 400);
        Bench.due("none is LEFT", desk.year(3, 0), 0);
        desk.instal(2, 401);
        Bench.due("at most", desk.year(2, 0), 400);
        desk.instal(1, 0);
        Bench.due("as told, again", desk.year(2, 0), 401);
        Bench.due("as told, again", desk.year(3, 0), 2);
        Bench.due("the rest", desk.year(4, 0), 597);
    }

    private static void interest() {
        int[][] rows = {{999, 1, 0}, {1000, 1, 1}, {1001, 1, 1}, {1999, 1, 1}, {2000, 1, 2}, {1, 999, 0}, {2, 999, 1}, {9999, 999, 9989}, {9999, 0, 0}};
        for (int[] row : rows) {
            RefundDesk desk = Bench.with("lp" + row[0] + "t2c" + row[1]);
            Bench.due("INTEREST of " + row[0] + " by " + row[1], desk.year(1, 1), row[2]);
            Bench.due("DUE", desk.year(2, 2), row[0] + row[2]);
        }
    }

    private static void prices() {
        // premium less t times step: 2, 1, 0, then 0 at least
        RefundDesk desk = Bench.with("lp1000t5m2s1");
        int[] want = {1002, 1001, 1000, 1000, 1000, 0};
        for (int year = 0; year <= 5; year++) {
            Bench.due("PRICE at " + year, desk.year(year, 4), want[year]);
        }
        desk = Bench.with("lp1999t4m10s3");
        // 10, 7, 4, 1 per mille of 1,999, cut
        int[] cut = {1999 + 19, 1999 + 13, 1999 + 7, 1999 + 1, 0};
        for (int year = 0; year <= 4; year++) {
            Bench.due("PRICE at " + year, desk.year(year, 4), cut[year]);
        }
        Bench.due("999 of premium", Bench.with("lp9999t2m999s0").year(1, 4), 9999 + 9989);
        Bench.due("99 of step", Bench.with("lp1000t3m999s99").year(2, 4), 1801);
        Bench.due("nothing LEFT", Bench.with("lp1000t3m999;iy1a1000").year(1, 4), 0);
        Bench.due("no premium", Bench.with("lp1000t3m0").year(0, 4), 1000);
        Bench.due("no step", Bench.with("lp1000t12m20s0").year(11, 4), 1020);
    }

    private static void costsAsked() {
        Bench.promise(9);
        for (int what : new int[] {-1, 4, Integer.MIN_VALUE, Integer.MAX_VALUE}) {
            Bench.asked("costs(0, 0, " + what + ")", GOING, desk -> desk.costs(0, 0, what), Bench.HIDDEN);
            Bench.asked("costs(4, 0, " + what + ")", GOING, desk -> desk.costs(4, 0, what), Bench.HIDDEN);
            Bench.asked("costs(-1, -1, " + what + ")", GOING, desk -> desk.costs(-1, -1, what), Bench.HIDDEN);
            Bench.due("no loan: costs(0, 0, " + what + ")", new RefundDesk().costs(0, 0, what), Bench.HIDDEN);
        }
        for (int what = 0; what < 4; what++) {
            int one = what;
            for (int[] node : new int[][] {{4, 0}, {4, 4}, {0, 1}, {3, 4}, {-1, 0}, {3, -1}, {Integer.MAX_VALUE, 0}, {0, Integer.MIN_VALUE}}) {
                Bench.asked("costs(" + node[0] + ", " + node[1] + ", " + what + ")", GOING, desk -> desk.costs(node[0], node[1], one), Bench.NONE);
            }
            Bench.due("no loan", new RefundDesk().costs(0, 0, what), Bench.NONE);
        }
        // the last year: 900 and 73 per mille of it, cut, by 1.080: the coupon is the one now
        Bench.asked("costs(3, 3, 1)", GOING, desk -> desk.costs(3, 3, 1), (900 + 65) * 1000 / 1080);
        Bench.asked("of a year that is past", GOING, desk -> desk.costs(0, 0, 1) > 0 ? 1 : 0, 1);
        Bench.asked("ended", GOING.andThen(desk -> Bench.acts(desk, "uu")), desk -> desk.costs(3, 3, 1), (900 + 65) * 1000 / 1080);
    }

    private static void whereItMayBe() {
        for (int years = 1; years <= 12; years++) {
            for (int first = 0; first <= 12; first += years > 4 && first > 2 && first < 9 ? 3 : 1) {
                for (int notice = 0; notice <= 2; notice++) {
                    mayBe(years, first, notice, (years + first) % 3);
                }
            }
        }
    }

    private static void mayBe(int years, int first, int notice, int refunds) {
        String loan = "lt" + years + "f" + first + "n" + notice + "k" + refunds;
        RefundDesk desk = Bench.with(loan);
        for (int t = 0; t < years; t++) {
            boolean may = t >= first && t + notice < years;
            String at = loan + ": costs(" + t + ", " + t + ", ";
            Bench.due(at + "0)", desk.costs(t, t, 0) >= 0, true);
            Bench.due(at + "1)", desk.costs(t, t, 1) >= 0, true);
            Bench.due(at + "2)", desk.costs(t, t, 2) != Bench.NONE, may);
            Bench.due(at + "3)", desk.costs(t, t, 3) != Bench.NONE, may && refunds > 0);
        }
    }

    private static void next() {
        Object[][] rows = {{"lp1000t1c100b50f12", 1047}, {"lp1000t1c50b50f12", 1000}, {"lp1000t1c51b50f12", 1000}, {"lp1000t1c49b50f12", 999},
            {"lp1000t1c0b999f12", 500}, {"lp1000t1c0b0f12", 1000}, {"lp1t1c0b1f12", 0}, {"lp1t1c0b0f12", 1}, {"lp9999t1c999b0f12", 19988},
            {"lp9999t12c999b0u0d0f12", 9999 + 12 * 9989}, {"lp9999t12c999b999u0d0f12q100", HELD_AT_999}};
        for (Object[] row : rows) {
            Bench.due("costs(0, 0, 1) of " + row[0], Bench.with((String) row[0]).costs(0, 0, 1), (Integer) row[1]);
        }
        // up 1,000 by 1.500, cut: 666; down 1,000
        for (int odds : new int[] {0, 1, 2, 50, 98, 99, 100}) {
            RefundDesk desk = Bench.with("lp1000t2c0b0d0f12q" + odds + ";xy1h1r500");
            Bench.due("ODDS " + odds, desk.costs(0, 0, 1), (odds * 666 + (100 - odds) * 1000) / 100);
        }
    }

    private static final int HELD_AT_999 = heldAt999();

    /** 9,989 a year, 9,999 at last, halved (nearly) and cut at each node. */
    private static int heldAt999() {
        int cost = 0;
        for (int t = 12; t >= 1; t--) {
            cost = (int) ((long) (cost + 9989 + (t == 12 ? 9999 : 0)) * 1000 / 1999);
        }
        return cost;
    }

    private static void noticeCosts() {
        // rates 0: a year's interest for each year of notice, then PRICE there
        for (int notice = 0; notice <= 2; notice++) {
            RefundDesk desk = Bench.with("lp1000t4c100b0u0d0m30s10f0k1e7n" + notice);
            Bench.due("CALLED, NOTICE " + notice, desk.costs(0, 0, 2), 100 * notice + 1000 + 30 - 10 * notice);
            Bench.due("REFUNDED, NOTICE " + notice, desk.costs(0, 0, 3), 100 * notice + 30 - 10 * notice + 7 + 1000);
            int last = 3 - notice;
            Bench.due("the last one", desk.costs(last, 0, 2), 100 * notice + 1000);
            Bench.due("the last one", desk.costs(last, 0, 3), 100 * notice + 7 + 1000);
        }
        // while notice runs nothing else may be: the call at year 0 waits for year 2, though year 1 were cheaper
        RefundDesk desk = Bench.with("lp1000t4c100b0u0d0m0s0f0k0n2");
        Bench.due("CALLED", desk.costs(0, 0, 2), 1200);
        // behind an instalment
        desk = Bench.with("lp1000t3c100b0u0d0m100s0f0k1e0n1;iy1a500");
        Bench.due("CALLED", desk.costs(0, 0, 2), 600 + 550);
        Bench.due("REFUNDED", desk.costs(0, 0, 3), 600 + 50 + 500);
    }

    private static void newCoupon() {
        int[][] rows = {{900, 99, 999}, {900, 98, 998}, {901, 99, 999}, {999, 99, 999}, {999, 0, 999}, {0, 0, 0}, {0, 99, 99}};
        for (int[] row : rows) {
            // so dear a premium that the new loan is not called at once
            String loan = "lp1000t1c0m999e3f0k1b" + row[0] + "g" + row[1];
            Bench.due("REFUNDED of " + loan, Bench.with(loan).costs(0, 0, 3), 999 + 3 + (1000 + row[2]) * 1000 / (1000 + row[0]));
            Bench.due("COUPON of " + loan, Bench.with(loan, "r").rule(2), row[2]);
        }
        // two refunds: the second one at the lower rate of year 1
        RefundDesk desk = Bench.with("lp1000t2c500b100u0d0m0s0e1f0k2;xy1h0r10;xy1h1r10");
        // refunded at once at 100 per mille; at year 1 again, at 10
        Bench.due("again", desk.costs(0, 0, 3), 1 + (100 + 1 + 1000) * 1000 / 1100);
        Bench.due("once", Bench.with("lp1000t2c500b100u0d0m999s0e1f0k1;xy1h0r10;xy1h1r10").costs(0, 0, 3),
            999 + 1 + (100 + 1100 * 1000 / 1010) * 1000 / 1100);
    }

    private static void best() {
        Bench.promise(10);
        // one year: held 1,000 and the coupon, by the rate 0; called 1,010; refunded 10, the fee, 1,000
        Object[][] rows = {{"c9e0", 0}, {"c10e0", 0}, {"c11e0", 1}, {"c11e5", 1}};
        for (Object[] row : rows) {
            Bench.due("best of " + row[0], Bench.with("lp1000t1b0m10s0f0k1" + row[0]).best(0, 0), (Integer) row[1]);
        }
        // two years, the rate rises: called 1,010, refunded 10, the fee and 952 for the new loan
        Object[][] second = {{"e47", 2}, {"e48", 1}, {"e49", 1}, {"e47k0", 1}};
        for (Object[] row : second) {
            String loan = "lp1000t2c100b0u50d0q100f0m10s0" + (((String) row[0]).contains("k") ? "" : "k1") + row[0];
            RefundDesk desk = Bench.with(loan);
            Bench.due("called of " + loan, desk.costs(0, 0, 2), 1010);
            Bench.due("best of " + loan, desk.best(0, 0), (Integer) row[1]);
        }
        for (int[] node : new int[][] {{4, 0}, {4, 4}, {0, 1}, {3, 4}, {-1, 0}, {3, -1}, {Integer.MAX_VALUE, 0}, {0, Integer.MIN_VALUE}}) {
            Bench.asked("best(" + node[0] + ", " + node[1] + ")", GOING, desk -> desk.best(node[0], node[1]), Bench.NONE);
            Bench.due("no loan", new RefundDesk().best(node[0], node[1]), Bench.NONE);
        }
        Bench.due("no loan", new RefundDesk().best(0, 0), Bench.NONE);
        Bench.asked("best(3, 3)", GOING, desk -> desk.best(3, 3), 0);
        Bench.asked("best(0, 0)", GOING, desk -> desk.best(0, 0), 0);
        Bench.asked("ended", Bench.loan("lp1000t2c100b0u0d0f1m0e0k0", "uu"), desk -> desk.best(1, 1), 1);
    }

    /** What was reckoned by one COUPON does not stay for another one with as many REFUNDS left. */
    private static void anotherCoupon() {
        Bench.promise(9);
        for (String refunds : new String[] {"k1", "k2"}) {
            Consumer<RefundDesk> loan = Bench.loan("lp1000t3c100b50u30d10q40m9s2f0n0g1e2" + refunds)
                .andThen(desk -> Bench.take(desk, "py1h1a2;py2h1a1", 2));
            RefundDesk plain = Bench.made(loan.andThen(desk -> Bench.acts(desk, "ur")));
            String want = Bench.picture(plain);
            RefundDesk desk = Bench.made(loan);
            desk.refund();
            long first = desk.costs(1, 1, 1);
            long told = desk.byPolicy(2, 0);
            desk.undo();
            Bench.acts(desk, "ur");
            Bench.due("another COUPON", desk.rule(2), 81);
            Bench.due("it costs another sum", desk.costs(1, 1, 1) != first, true);
            Bench.due("by the policy, too", desk.byPolicy(2, 0) != told, true);
            Bench.same("undone, refunded at another node", Bench.picture(desk), want);
            // the same by an image: COUPON 51 is brought back behind 81
            desk = Bench.made(loan);
            desk.refund();
            desk.image();
            desk.undo();
            Bench.acts(desk, "ur");
            desk.costs(1, 1, 1);
            desk.byPolicy(2, 0);
            desk.back();
            Bench.due("COUPON brought back", desk.rule(2), 51);
            Bench.due("what it costs by it", desk.costs(1, 1, 1), first);
            Bench.due("what it costs by the policy", desk.byPolicy(2, 0), told);
        }
    }
}
