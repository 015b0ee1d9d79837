import java.util.function.Consumer;
import java.util.function.ToLongFunction;

/** The edges that promises 11 to 20 and 22 to 24 name, and ==== 2: acts, their refusals, undoing, the log. */
public final class EdgesOfActsTest {
    /** Notice of a year; it may be called at years 1 and 2. */
    private static final String FOUR = "lp1000t4c100b50u10d10q40m20s5f1n1k2g3e5;iy2a100";
    /** At once; calling is best everywhere. */
    private static final String CHEAP = "lp1000t3c200b10u1d1q50m0s0f0n0k0g0e0";
    private static final String[] NAMES = {"up", "down", "call", "refund", "withdraw", "instal", "tell", "doBest", "adopt", "follow"};

    public static void main(String[] args) {
        noLoan();
        ended();
        passing();
        calling();
        refunding();
        withdrawing();
        instalmentYears();
        amounts();
        toldNodes();
        toldRates();
        doingBest();
        adopting();
        following();
        statuses();
        undoing();
        undoneSorts();
        askedAhead();
        logging();
        loggedYears();
        Bench.finish();
    }

    /** An act of each sort, with numbers that could be. */
    private static int act(RefundDesk desk, int sort) {
        switch (sort) {
            case 5:
                return desk.instal(1, 7);
            case 6:
                return desk.tell(3, 3, 7);
            default:
                return Bench.act(desk, "udcrw..baf".charAt(sort));
        }
    }

    private static Consumer<RefundDesk> policy(Consumer<RefundDesk> state, String text) {
        return state.andThen(desk -> Bench.take(desk, text, 2));
    }

    private static void noLoan() {
        for (int sort = 0; sort < 10; sort++) {
            int one = sort;
            Bench.promise(11 + sort);
            Bench.refused("no loan: " + NAMES[sort], desk -> { }, desk -> act(desk, one), Bench.NONE, 0);
        }
        Bench.promise(16);
        Bench.refused("no loan, ahead of the bounds", desk -> { }, desk -> desk.instal(1, -1), Bench.NONE, 0);
        Bench.promise(17);
        Bench.refused("no loan, ahead of the bounds", desk -> { }, desk -> desk.tell(0, 0, -1), Bench.NONE, 0);
    }

    private static void ended() {
        Consumer<RefundDesk> through = Bench.loan(FOUR, "uddu");
        Consumer<RefundDesk> called = Bench.loan(FOUR, "ucu");
        Consumer<RefundDesk> atOnce = policy(Bench.loan(CHEAP, "c"), "pa1");
        for (int sort = 0; sort < 10; sort++) {
            int one = sort;
            Bench.promise(11 + sort);
            Bench.refused("run through: " + NAMES[sort], through, desk -> act(desk, one), Bench.NONE, 0);
            Bench.refused("called: " + NAMES[sort], called, desk -> act(desk, one), Bench.NONE, 0);
            Bench.refused("called at once: " + NAMES[sort], atOnce, desk -> act(desk, one), Bench.NONE, 0);
        }
        Bench.promise(16);
        Bench.refused("ended, ahead of the bounds", called, desk -> desk.instal(3, 10000), Bench.NONE, 0);
        Bench.promise(17);
        Bench.refused("ended, ahead of the bounds", called, desk -> desk.tell(3, 2, 1000), Bench.NONE, 0);
    }

    private static void passing() {
        for (int sort = 0; sort < 2; sort++) {
            int rise = 1 - sort;
            String letter = sort == 0 ? "u" : "d";
            ToLongFunction<RefundDesk> pass = desk -> Bench.act(desk, letter.charAt(0));
            Bench.promise(11 + sort);
            RefundDesk desk = Bench.taken("the last but one", Bench.loan(FOUR, letter + letter), pass, 90);
            Bench.due("it has not ended", desk.most(7), 0);
            Bench.due("YEAR", desk.most(4), 3);
            Bench.due("HEIGHT", desk.most(5), 3 * rise);
            desk = Bench.taken("the last one", Bench.loan(FOUR, letter + letter + letter), pass, 90 + 900);
            Bench.due("it has ENDED", desk.most(7), 1);
            Bench.due("YEAR", desk.most(4), 4);
            Bench.due("HEIGHT", desk.most(5), 4 * rise);
            Bench.due("PAID", desk.most(0), 100 + 200 + 90 + 990);
            Bench.due("INTEREST", desk.most(1), 380);
            Bench.due("LEFT", desk.most(6), 0);
            desk = Bench.taken("of one YEAR", Bench.loan("lp1t1c999"), pass, 1);
            Bench.due("it has ENDED", desk.most(7), 1);
            Bench.due("one more", Bench.act(desk, letter.charAt(0)), Bench.NONE);
            Bench.due("status(0)", desk.status(0), 1);
            Bench.due("YEAR", desk.most(4), 1);
            desk = Bench.taken("of twelve YEARS", Bench.loan("lp9999t12c999", "uuuuuuuuuuu"), pass, 9999 + 9989);
            Bench.due("PAID", desk.most(0), 9999 + 12 * 9989);
            Bench.due("nothing LEFT: 0 is paid", Bench.with("lp5t3;iy1a5", "u" + letter).most(0), 5);
            // notice: DUE, then PRICE, in one sum; a refund ends nothing
            desk = Bench.taken("notice of a call runs out", Bench.loan(FOUR, "uc"), pass, 100 + 100 + 909);
            Bench.due("it has ENDED", desk.most(7), 1);
            Bench.due("premiums", desk.most(2), 9);
            desk = Bench.taken("notice of a refund runs out", Bench.loan(FOUR, "ur"), pass, 100 + 100 + 9 + 5);
            Bench.due("it has not", desk.most(7), 0);
            Bench.due("COUPON", desk.rule(2), 50 + 20 * rise + 3);
            Bench.due("FEES", desk.most(3), 5);
            desk = Bench.taken("it runs still", Bench.loan("lp1000t5c100n2f0m20s5", "c"), pass, 100);
            Bench.due("one year more", desk.most(9), 1);
            desk = Bench.taken("it has run out", Bench.loan("lp1000t5c100n2f0m20s5", "cu"), pass, 100 + 1010);
            Bench.due("none runs", desk.most(8) + desk.most(9), 0);
        }
    }

    private static void calling() {
        Bench.promise(13);
        Bench.refused("ahead of FIRST", Bench.loan("lt5f2n1", "u"), RefundDesk::call, Bench.NONE, 3);
        RefundDesk desk = Bench.taken("at FIRST", Bench.loan("lt5f2n1", "uu"), RefundDesk::call, 0);
        Bench.due("notice of a CALL", desk.most(8) * 10 + desk.most(9), 11);
        Bench.due("nothing was PAID", desk.most(0), 100);
        desk = Bench.taken("the last year for it", Bench.loan("lt5f2n1", "uuu"), RefundDesk::call, 0);
        Bench.due("it ends ahead of the last YEAR", desk.up() - 50, 1000);
        Bench.due("YEAR", desk.most(4) * 10 + desk.most(7), 41);
        Bench.refused("too late", Bench.loan("lt5f2n1", "uuuu"), RefundDesk::call, Bench.NONE, 3);
        Bench.taken("NOTICE 2, the last year for it", Bench.loan("lt5f0n2", "uu"), RefundDesk::call, 0);
        Bench.refused("NOTICE 2, too late", Bench.loan("lt5f0n2", "uuu"), RefundDesk::call, Bench.NONE, 3);
        desk = Bench.taken("NOTICE 0, the last year for it", Bench.loan("lp1000t5f0n0m20s5", "uuuu"), RefundDesk::call, 1000);
        Bench.due("ended", desk.most(7) * 10 + desk.most(4), 14);
        Bench.taken("FIRST 0", Bench.loan("lp1000t1f0n0m20"), RefundDesk::call, 1020);
        Bench.refused("FIRST 0, no time for NOTICE", Bench.loan("lt1f0n1"), RefundDesk::call, Bench.NONE, 3);
        Bench.taken("FIRST 11 of 12", Bench.loan("lp1000t12f11", "uuuuuuuuuuu"), RefundDesk::call, 1000);
        Bench.refused("FIRST 12 of 12", Bench.loan("lp1000t12f12", "uuuuuuuuuuu"), RefundDesk::call, Bench.NONE, 3);
        Bench.refused("NOTICE of a call runs", Bench.loan(FOUR, "uc"), RefundDesk::call, Bench.NONE, 2);
        Bench.refused("NOTICE of a refund runs", Bench.loan(FOUR, "ur"), RefundDesk::call, Bench.NONE, 2);
        Bench.refused("NOTICE runs, and it is too late", Bench.loan("lt5f0n2", "uucu"), RefundDesk::call, Bench.NONE, 2);
        Bench.taken("withdrawn, then again", Bench.loan(FOUR, "ucw"), RefundDesk::call, 0);
        Bench.taken("behind a refund", Bench.loan("lp1000t3f0n0m20s5", "r"), RefundDesk::call, 1020);
    }

    private static void refunding() {
        Bench.promise(14);
        Bench.refused("ahead of FIRST", Bench.loan("lt5f2n1", "u"), RefundDesk::refund, Bench.NONE, 3);
        RefundDesk desk = Bench.taken("at FIRST", Bench.loan("lt5f2n1", "uu"), RefundDesk::refund, 0);
        Bench.due("notice of a REFUND", desk.most(8) * 10 + desk.most(9), 21);
        Bench.due("REFUNDS as they were", desk.rule(11), 1);
        Bench.taken("the last year for it", Bench.loan("lt5f2n1", "uuu"), RefundDesk::refund, 0);
        Bench.refused("too late", Bench.loan("lt5f2n1", "uuuu"), RefundDesk::refund, Bench.NONE, 3);
        desk = Bench.taken("at once", Bench.loan("lp1000t5f0n0m20s5e7g4b60"), RefundDesk::refund, 27);
        Bench.due("COUPON", desk.rule(2), 64);
        Bench.due("premiums, FEES, REFUNDS done", desk.most(2) * 1000 + desk.most(3) * 10 + desk.most(10), 20071);
        Bench.due("it goes on", desk.most(7), 0);
        Bench.refused("no REFUNDS at all", Bench.loan("lt5f0k0"), RefundDesk::refund, Bench.NONE, 3);
        Bench.refused("none left", Bench.loan("lt5f0k1", "r"), RefundDesk::refund, Bench.NONE, 3);
        Bench.taken("the second of two", Bench.loan("lp1000t5f0k2m20s0e5", "r"), RefundDesk::refund, 25);
        Bench.refused("the third of two", Bench.loan("lt5f0k2", "rr"), RefundDesk::refund, Bench.NONE, 3);
        Bench.refused("no REFUNDS, and ahead of FIRST", Bench.loan("lt5f1k0"), RefundDesk::refund, Bench.NONE, 3);
        Bench.refused("NOTICE of a refund runs", Bench.loan(FOUR, "ur"), RefundDesk::refund, Bench.NONE, 2);
        Bench.refused("NOTICE of a call runs", Bench.loan(FOUR, "uc"), RefundDesk::refund, Bench.NONE, 2);
        Bench.refused("NOTICE runs, and no REFUNDS", Bench.loan("lt5f0n1k0", "c"), RefundDesk::refund, Bench.NONE, 2);
        Bench.due("COUPON 999 just so", Bench.with("lt3f0b900g99", "r").rule(2), 999);
        Bench.due("COUPON 999 at most", Bench.with("lt3f0b901g99", "r").rule(2), 999);
        Bench.due("COUPON 998", Bench.with("lt3f0b899g99", "r").rule(2), 998);
        Bench.due("nothing LEFT: the FEE alone", Bench.with("lp9t3f0m999e8;iy1a9", "u").refund(), 8);
    }

    private static void withdrawing() {
        Bench.promise(15);
        String loan = "lt5f0n2k2";
        Bench.refused("none runs", Bench.loan(loan), RefundDesk::withdraw, Bench.NONE, 2);
        for (String kind : new String[] {"c", "r"}) {
            RefundDesk desk = Bench.taken("at once", Bench.loan(loan, kind), RefundDesk::withdraw, 2);
            Bench.due("none runs", desk.most(8) + desk.most(9), 0);
            desk = Bench.taken("a year later", Bench.loan(loan, kind + "u"), RefundDesk::withdraw, 1);
            Bench.due("none runs", desk.most(8) + desk.most(9), 0);
            desk.up();
            Bench.due("nothing runs out", desk.most(7) * 10 + desk.most(10), 0);
            Bench.refused("twice", Bench.loan(loan, kind + "w"), RefundDesk::withdraw, Bench.NONE, 2);
        }
        Bench.refused("a refund's has run out", Bench.loan(loan, "ruu"), RefundDesk::withdraw, Bench.NONE, 2);
        Bench.refused("a call's has run out", Bench.loan(loan, "cuu"), RefundDesk::withdraw, Bench.NONE, 0);
        Bench.refused("NOTICE 0", Bench.loan("lt5f0n0", "r"), RefundDesk::withdraw, Bench.NONE, 2);
        Bench.due("another may be given", Bench.with(loan, "cwr").most(8), 2);
    }

    private static void instalmentYears() {
        Bench.promise(16);
        String loan = "lp1000t5";
        String ups = "uuuu";
        for (int now = 0; now < 5; now++) {
            Consumer<RefundDesk> state = Bench.loan(loan, ups.substring(0, now));
            for (int year = -1; year <= 13; year++) {
                int one = year;
                if (year > now && year < 5) {
                    RefundDesk desk = Bench.taken("YEAR " + now + ": instal(" + year + ", 7)", state, x -> x.instal(one, 7), 0);
                    Bench.due("it is told", desk.year(year, 0), 7);
                    Bench.due("LEFT at last but one", desk.year(4, 3), 993);
                } else {
                    Bench.refused("YEAR " + now + ": instal(" + year + ", 7)", state, x -> x.instal(one, 7), Bench.NONE, 0);
                    Bench.refused("YEAR " + now + ": instal(" + year + ", -1)", state, x -> x.instal(one, -1), Bench.NONE, 0);
                }
            }
        }
        for (int year : Bench.FAR_OFF) {
            Bench.refused("instal(" + year + ", 7)", Bench.loan(loan), x -> x.instal(year, 7), Bench.NONE, 0);
        }
        Bench.refused("one YEAR has none to tell", Bench.loan("lt1"), x -> x.instal(1, 7), Bench.NONE, 0);
        Bench.taken("two YEARS have one", Bench.loan("lt2"), x -> x.instal(1, 7), 0);
        Bench.taken("the eleventh of twelve", Bench.loan("lt12"), x -> x.instal(11, 7), 0);
        Bench.refused("the twelfth of twelve", Bench.loan("lt12"), x -> x.instal(12, 7), Bench.NONE, 0);
    }

    private static void amounts() {
        Consumer<RefundDesk> state = Bench.loan("lp1000t5;iy2a300;iy3a9999", "u");
        RefundDesk desk = Bench.taken("9999", state, x -> x.instal(2, 9999), 300);
        Bench.due("what is LEFT at most", desk.year(2, 0), 1000);
        desk = Bench.taken("0", state, x -> x.instal(2, 0), 300);
        Bench.due("none", desk.year(2, 0), 0);
        Bench.taken("1", state, x -> x.instal(4, 1), 0);
        Bench.taken("what was told, not what is LEFT", state, x -> x.instal(3, 700), 9999);
        for (int amount : new int[] {-1, 10000, Integer.MIN_VALUE, Integer.MAX_VALUE}) {
            Bench.refused("instal(2, " + amount + ")", state, x -> x.instal(2, amount), Bench.NONE, 1);
            Bench.refused("instal(5, " + amount + ")", state, x -> x.instal(5, amount), Bench.NONE, 0);
        }
        Bench.refused("it is so", state, x -> x.instal(2, 300), Bench.NONE, 2);
        Bench.refused("it is so, 9999", state, x -> x.instal(3, 9999), Bench.NONE, 2);
        Bench.taken("the same INSTALMENT, told otherwise", state, x -> x.instal(3, 701), 9999);
        Bench.refused("0 without", state, x -> x.instal(4, 0), Bench.NONE, 2);
        Bench.due("twice", Bench.made(state.andThen(x -> x.instal(2, 301))).instal(2, 301), Bench.NONE);
        Bench.taken("while notice runs", Bench.loan(FOUR, "uc"), x -> x.instal(3, 5), 0);
        desk = Bench.made(Bench.loan(FOUR, "uc").andThen(x -> x.instal(2, 600)));
        Bench.due("PRICE goes by what is LEFT then", desk.up(), 100 + 600 + 400 + 4);
    }

    private static void toldNodes() {
        Bench.promise(17);
        String loan = "lt5b50u10d10";
        for (String acts : new String[] {"", "u", "d", "ud", "udu", "dddd", "uuuu"}) {
            Consumer<RefundDesk> state = Bench.loan(loan, acts);
            int year = acts.length();
            int height = acts.replace("d", "").length();
            for (int t = -1; t <= 5; t++) {
                for (int h = -1; h <= t + 1; h++) {
                    int[] one = {t, h};
                    boolean can = t >= year && t < 5 && h >= height && h <= height + t - year;
                    String call = "behind '" + acts + "' tell(" + t + ", " + h + ", 555)";
                    if (can) {
                        int was = Math.max(0, 50 + 10 * h - 10 * (t - h));
                        Bench.due(call, Bench.rateOf(Bench.taken(call, state, x -> x.tell(one[0], one[1], 555), was), t, h), 555);
                    } else {
                        Bench.refused(call, state, x -> x.tell(one[0], one[1], 555), Bench.NONE, 0);
                        Bench.refused(call + ", bounds later", state, x -> x.tell(one[0], one[1], 1000), Bench.NONE, 0);
                    }
                }
            }
        }
        for (int far : Bench.FAR_OFF) {
            Bench.refused("tell(" + far + ", 0, 5)", Bench.loan(loan), x -> x.tell(far, 0, 5), Bench.NONE, 0);
            Bench.refused("tell(0, " + far + ", 5)", Bench.loan(loan), x -> x.tell(0, far, 5), Bench.NONE, 0);
            Bench.refused("tell(4, " + far + ", 5)", Bench.loan(loan, "u"), x -> x.tell(4, far, 5), Bench.NONE, 0);
            for (String acts : new String[] {"u", "d", "ud", "uuuu", "dddd"}) {
                int height = acts.replace("d", "").length();
                Bench.refused(acts + ": tell(" + far + ", " + height + ", 5)", Bench.loan(loan, acts), x -> x.tell(far, height, 5), Bench.NONE, 0);
                Bench.refused(acts + ": tell(" + far + ", " + far + ", 5)", Bench.loan(loan, acts), x -> x.tell(far, far, 5), Bench.NONE, 0);
            }
        }
        Bench.taken("(11, 11)", Bench.loan("lt12b0u0"), x -> x.tell(11, 11, 5), 0);
        Bench.refused("(12, 0)", Bench.loan("lt12b0u0"), x -> x.tell(12, 0, 5), Bench.NONE, 0);
    }

    private static void toldRates() {
        Consumer<RefundDesk> state = Bench.loan("lt3b50u10d10;xy1h1r70", "u");
        Bench.due("0", Bench.rateOf(Bench.taken("0", state, x -> x.tell(1, 1, 0), 70), 1, 1), 0);
        RefundDesk desk = Bench.taken("999", state, x -> x.tell(2, 2, 999), 70);
        Bench.due("999", Bench.rateOf(desk, 2, 2), 999);
        Bench.due("the greatest", desk.most(11), 999);
        for (int rate : new int[] {-1, 1000, Integer.MIN_VALUE, Integer.MAX_VALUE}) {
            Bench.refused("tell(2, 2, " + rate + ")", state, x -> x.tell(2, 2, rate), Bench.NONE, 1);
        }
        Bench.refused("it is so, told", state, x -> x.tell(1, 1, 70), Bench.NONE, 2);
        Bench.refused("it is so, not told", state, x -> x.tell(2, 1, 50), Bench.NONE, 2);
        Bench.refused("it is so, 0 at least", Bench.loan("lt3b5d9"), x -> x.tell(1, 0, 0), Bench.NONE, 2);
        Bench.refused("it is so, 999 at most", Bench.loan("lt3b950u99"), x -> x.tell(1, 1, 999), Bench.NONE, 2);
        Bench.taken("as it was: 0 at least", Bench.loan("lt3b5d9"), x -> x.tell(1, 0, 1), 0);
        Bench.taken("as it was: 999 at most", Bench.loan("lt3b950u99"), x -> x.tell(1, 1, 998), 999);
        desk = Bench.made(Bench.loan("lt5f0n1b50u10d10g2", "r").andThen(x -> x.tell(1, 0, 33)));
        desk.down();
        Bench.due("told while notice runs: the new COUPON", desk.rule(2), 35);
    }

    private static void doingBest() {
        Bench.promise(18);
        // held 1,100 by the rate: 1,001 at 98, called 1,000
        String edge = "lp1000t3c100b0u0d0m0s0f0k0e0";
        RefundDesk desk = Bench.taken("CALLED is less by one", Bench.loan(edge + ";xr98"), RefundDesk::doBest, 1);
        Bench.due("ENDED, PAID", desk.most(7) * 10000 + desk.most(0), 11000);
        Bench.refused("HELD costs the same", Bench.loan(edge + ";xr99"), RefundDesk::doBest, Bench.NONE, 2);
        Bench.refused("it may not be yet", Bench.loan(edge.replace("f0", "f1")), RefundDesk::doBest, Bench.NONE, 2);
        Bench.taken("at FIRST", Bench.loan(edge.replace("f0", "f1"), "u"), RefundDesk::doBest, 1);
        // the rate rises: refunded at once 10, the fee, 952; called 1,010
        String rises = "lp1000t2c100b0u50d0q100f0m10s0";
        desk = Bench.taken("REFUNDED is less by one", Bench.loan(rises + "e47k1"), RefundDesk::doBest, 2);
        Bench.due("PAID", desk.most(0), 57);
        Bench.due("REFUNDS", desk.rule(11), 0);
        Bench.taken("CALLED costs the same", Bench.loan(rises + "e48k1"), RefundDesk::doBest, 1);
        Bench.taken("no REFUNDS", Bench.loan(rises + "e0k0"), RefundDesk::doBest, 1);
        for (String acts : new String[] {"c", "r"}) {
            Bench.refused("NOTICE runs", Bench.loan("lp1000t5c300b0f0m0e0n2", acts), RefundDesk::doBest, Bench.NONE, 2);
        }
        desk = Bench.taken("with NOTICE", Bench.loan("lp1000t5c300b0u0d0f0m0e0n2k0"), RefundDesk::doBest, 1);
        Bench.due("it runs", desk.most(8) * 100 + desk.most(9) * 10 + desk.most(7), 120);
        Bench.due("LOG", desk.log(0, 0) * 10 + desk.log(0, 1), 72);
        Bench.due("one act", desk.count(3) * 10 + desk.count(4), 11);
    }

    private static void adopting() {
        Bench.promise(19);
        RefundDesk desk = Bench.taken("all six", Bench.loan(CHEAP), RefundDesk::adopt, 6);
        Bench.due("deed", desk.deed(2, 2), 1);
        Bench.due("LOG", desk.log(0, 0) * 10 + desk.log(0, 1), 86);
        Bench.refused("it is so", Bench.loan(CHEAP, "a"), RefundDesk::adopt, Bench.NONE, 2);
        Bench.refused("HELD is best everywhere", Bench.loan("lt3f12"), RefundDesk::adopt, Bench.NONE, 2);
        Consumer<RefundDesk> allButOne = policy(Bench.loan(CHEAP), "pa1;py1a1;py1h1a1;py2a1;py2h1a1");
        Bench.due("one", Bench.taken("all but one", allButOne, RefundDesk::adopt, 1).deed(2, 2), 1);
        desk = Bench.taken("what can still be come to", Bench.loan(CHEAP, "u"), RefundDesk::adopt, 3);
        Bench.due("past", desk.deed(0, 0), 0);
        Bench.due("not to be come to", desk.deed(1, 0) + desk.deed(2, 0), 0);
        Bench.due("here", desk.deed(1, 1) * 100 + desk.deed(2, 1) * 10 + desk.deed(2, 2), 111);
        Bench.refused("it is so where it can be come to", policy(Bench.loan(CHEAP, "u"), "py1h1a1;py2h1a1;py2h2a1;pa2;py2a2"),
            RefundDesk::adopt, Bench.NONE, 2);
        Bench.taken("the last year's node alone", Bench.loan(CHEAP, "ud"), RefundDesk::adopt, 1);
        Bench.taken("while notice runs", Bench.loan("lp1000t4c300b0u0d0f0m0e0n1k0", "c"), RefundDesk::adopt, 6);
        Bench.taken("a deed that may not be is changed", policy(Bench.loan("lt2f12"), "pa1"), RefundDesk::adopt, 1);
    }

    private static void following() {
        Bench.promise(20);
        Consumer<RefundDesk> one = Bench.loan("lp1000t4c100b50f1n1k1m20s5", "u");
        Bench.refused("it says HELD", one, RefundDesk::follow, Bench.NONE, 2);
        Bench.refused("it says so of another NODE", policy(one, "py1h0a1;pa1"), RefundDesk::follow, Bench.NONE, 2);
        RefundDesk desk = Bench.taken("CALLED", policy(one, "py1h1a1"), RefundDesk::follow, 1);
        Bench.due("notice of a CALL", desk.most(8), 1);
        Bench.due("LOG", desk.log(0, 0) * 10 + desk.log(0, 1), 92);
        desk = Bench.taken("REFUNDED", policy(one, "py1h1a2"), RefundDesk::follow, 2);
        Bench.due("notice of a REFUND", desk.most(8), 2);
        Bench.due("LOG", desk.log(0, 0) * 10 + desk.log(0, 1), 93);
        Bench.refused("NOTICE runs", policy(Bench.loan("lt4f1n1k1", "uc"), "py1h1a1"), RefundDesk::follow, Bench.NONE, 2);
        for (int deed = 1; deed <= 2; deed++) {
            Bench.refused("ahead of FIRST", policy(Bench.loan("lt4f1n1"), "pa" + deed), RefundDesk::follow, Bench.NONE, 2);
            Bench.taken("at FIRST", policy(Bench.loan("lt4f0n1"), "pa" + deed), RefundDesk::follow, deed);
            Bench.taken("the last year for it", policy(Bench.loan("lt4f0n1", "dd"), "py2a" + deed), RefundDesk::follow, deed);
            Bench.refused("too late", policy(Bench.loan("lt4f0n1", "ddd"), "py3a" + deed), RefundDesk::follow, Bench.NONE, 2);
        }
        Bench.refused("no REFUNDS", policy(Bench.loan("lt4f0k0"), "pa2"), RefundDesk::follow, Bench.NONE, 2);
        Bench.taken("no REFUNDS, CALLED", policy(Bench.loan("lp1000t4f0k0m20"), "pa1"), RefundDesk::follow, 1);
        Bench.taken("the second of two", policy(Bench.loan("lt4f0k2", "r"), "pa2"), RefundDesk::follow, 2);
        Bench.refused("none left", policy(Bench.loan("lt4f0k2", "rr"), "pa2"), RefundDesk::follow, Bench.NONE, 2);
    }

    private static void statuses() {
        Bench.promise(22);
        Consumer<RefundDesk> some = Bench.loan(FOUR, "u").andThen(desk -> {
            for (int i = 0; i < 4; i++) {
                desk.instal(4, 1);
            }
            for (int i = 0; i < 3; i++) {
                desk.instal(3, -1);
            }
            desk.withdraw();
            desk.withdraw();
            desk.undo();
            desk.call();
        });
        int[] want = {4, 3, 2, 1};
        for (int what = 0; what < 4; what++) {
            int one = what;
            Bench.asked("status(" + what + ")", some, desk -> desk.status(one), want[what]);
        }
        for (int what : new int[] {-1, 4, Integer.MIN_VALUE, Integer.MAX_VALUE}) {
            Bench.asked("status(" + what + ")", some, desk -> desk.status(what), Bench.NONE);
            Bench.due("no loan", new RefundDesk().status(what), Bench.NONE);
        }
        RefundDesk desk = Bench.made(some);
        desk.image();
        desk.up();
        desk.back();
        Bench.take(desk, "lt2", 0);
        desk.up();
        desk.undo();
        Bench.take(desk, "i1,99;i9,1;w", 1);
        desk.run(0, 0);
        desk.perform(0);
        desk.years(40, 3);
        desk.years(0, 3);
        desk.years(41, 3);
        desk.perform(4);
        desk.text(7);
        for (int what = 0; what < 4; what++) {
            Bench.due("it stays: status(" + what + ")", desk.status(what), want[what]);
        }
    }

    private static void undoing() {
        Bench.promise(23);
        Bench.refused("no loan", desk -> { }, RefundDesk::undo, Bench.NONE, Bench.UNCOUNTED);
        Bench.refused("no act", Bench.loan(FOUR), RefundDesk::undo, Bench.NONE, Bench.UNCOUNTED);
        Bench.refused("refused ones alone", Bench.loan(FOUR).andThen(RefundDesk::call), RefundDesk::undo, Bench.NONE, Bench.UNCOUNTED);
        for (int acts : new int[] {1, 39, 40, 41, 42, 80, 81, 82, 83, 130}) {
            RefundDesk desk = Bench.with("lt2b0");
            for (int i = 1; i <= acts; i++) {
                desk.tell(0, 0, i);
                desk.tell(0, 0, i);
                desk.tell(0, 0, 1000);
            }
            int can = Math.min(40, acts);
            Bench.due(acts + " acts: count(4)", desk.count(4), can);
            for (int left = can - 1; left >= 0; left--) {
                Bench.due(acts + " acts: undo()", desk.undo(), left);
                Bench.due("the rate", Bench.rateOf(desk, 0, 0), acts - can + left);
            }
            Bench.due(acts + " acts: one more", desk.undo(), Bench.NONE);
            Bench.due("the rate", Bench.rateOf(desk, 0, 0), acts - can);
            Bench.due("count(4)", desk.count(4), 0);
        }
        RefundDesk desk = Bench.with("lt2b0");
        for (int turn = 0; turn < 30; turn++) {
            desk.tell(0, 0, 500 + turn);
            desk.tell(1, 1, 400 + turn);
            desk.undo();
        }
        Bench.due("done and undone", desk.count(4), 30);
        Bench.due("its rate", Bench.rateOf(desk, 1, 1), 10);
        for (int left = 29; left >= 0; left--) {
            Bench.due("undo()", desk.undo(), left);
            Bench.due("the rate", Bench.rateOf(desk, 0, 0), left == 0 ? 0 : 499 + left);
        }
    }

    /** An act of each sort, undone: all is as it was. */
    private static void undoneSorts() {
        String best = "lp1000t4c300b10u1d1q50m0s0f0k1e0;xy3h3r9";
        Object[][] rows = {{Bench.loan(FOUR, "uc"), 0}, {Bench.loan(FOUR, "ur"), 1}, {Bench.loan(FOUR, "udd"), 0}, {Bench.loan(FOUR, "u"), 2},
            {Bench.loan("lt3f0"), 2}, {Bench.loan("lt3f0"), 3}, {Bench.loan(FOUR, "u"), 3}, {Bench.loan(FOUR, "ur"), 4},
            {Bench.loan("lt4;iy1a5"), 5}, {Bench.loan("lt4"), 6}, {Bench.loan(best), 7}, {Bench.loan(best + ";iy1a7"), 8},
            {policy(Bench.loan(FOUR, "u"), "py1h1a2"), 9}, {policy(Bench.loan("lt3f0"), "pa1"), 9}};
        for (Object[] row : rows) {
            @SuppressWarnings("unchecked")
            Consumer<RefundDesk> state = (Consumer<RefundDesk>) row[0];
            int sort = (Integer) row[1];
            RefundDesk was = Bench.made(state);
            RefundDesk now = Bench.made(state);
            int could = was.count(4);
            Bench.due(NAMES[sort] + " is done", act(now, sort) >= 0, true);
            Bench.due("it is in the LOG", now.log(0, 0), sort);
            Bench.due("it can be undone", now.count(4), could + 1);
            Bench.due("undo() of " + NAMES[sort], now.undo(), could);
            Bench.same("undo() of " + NAMES[sort], Bench.picture(now), Bench.picture(was));
        }
    }

    /** What was asked ahead of an act does not stay: the same answers as if it had not been asked. */
    private static void askedAhead() {
        Bench.promise(9);
        String[] loans = {"lp9999t3c90b60u20d10q40f0n0k2m9s2e7;iy1a900", "lp9999t3c120b60u20d10q40f0n1k2m9s2e7"};
        for (String loan : loans) {
            for (int sort = 0; sort < 10; sort++) {
                int one = sort;
                Consumer<RefundDesk> ahead = Bench.loan(loan).andThen(desk -> Bench.take(desk, "pa2;py1h1a1", 2));
                if (sort == 4) {
                    ahead = Bench.loan(loan.replace("n0", "n1"), "r");
                }
                Consumer<RefundDesk> act = desk -> Bench.due(NAMES[one] + " is done or refused", toldAnew(desk, one) < -1, false);
                RefundDesk asked = Bench.made(ahead.andThen(desk -> Bench.picture(desk)).andThen(act));
                Bench.same(loan + ", asked ahead of " + NAMES[sort], Bench.picture(asked), Bench.picture(Bench.made(ahead.andThen(act))));
                asked.undo();
                Bench.same("and undone", Bench.outline(asked), Bench.outline(Bench.made(ahead.andThen(act).andThen(RefundDesk::undo))));
            }
        }
    }

    private static int toldAnew(RefundDesk desk, int sort) {
        return sort == 5 ? desk.instal(2, 777) : sort == 6 ? desk.tell(1, 1, 7) : act(desk, sort);
    }

    private static void logging() {
        Bench.promise(24);
        for (int acts : new int[] {0, 1, 59, 60, 61, 99, 100, 101, 140, 161, 200}) {
            RefundDesk desk = Bench.with("lt12b0");
            for (int i = 0; i < acts; i++) {
                desk.tell(i % 12, 0, 1 + i);
            }
            shown(acts + " acts", desk, acts);
            int undone = Math.min(40, acts);
            for (int i = 0; i < undone; i++) {
                desk.undo();
            }
            shown(acts + " acts, " + undone + " undone", desk, acts - undone);
        }
        Consumer<RefundDesk> two = Bench.loan(FOUR, "ud");
        Bench.asked("log(1, 2)", two, desk -> desk.log(1, 2), 100);
        int[][] no = {{2, 0}, {-1, 0}, {0, 3}, {0, -1}, {60, 0}, {Integer.MAX_VALUE, 0}, {Integer.MIN_VALUE, 0}, {0, Integer.MAX_VALUE}, {1, Integer.MIN_VALUE}};
        for (int[] one : no) {
            Bench.asked("log(" + one[0] + ", " + one[1] + ")", two, desk -> desk.log(one[0], one[1]), Bench.HIDDEN);
            Bench.due("no loan", new RefundDesk().log(one[0], one[1]), Bench.HIDDEN);
        }
        Bench.due("no loan", new RefundDesk().log(0, 0), Bench.HIDDEN);
        RefundDesk desk = Bench.made(policy(Bench.loan("lp1000t5c100f0n1k2m0e5b0u0d0;iy1a10"), "py3a2"));
        desk.refund();
        desk.withdraw();
        desk.call();
        desk.withdraw();
        desk.down();
        desk.instal(4, 5);
        desk.tell(2, 1, 5);
        desk.adopt();
        desk.up();
        Bench.take(desk, "py2h1a2", 2);
        desk.follow();
        desk.down();
        // PAID: 110; 99 more; 99 and the fee
        int[][] want = {{1, 3, 110 + 99 + 104}, {9, 3, 209}, {0, 2, 209}, {8, -1, 110}, {6, 2, 110}, {5, 4, 110}, {1, 1, 110}, {4, 0, 0}, {2, 0, 0},
            {4, 0, 0}, {3, 0, 0}};
        for (int i = 0; i < want.length; i++) {
            for (int what = 0; what < 3; what++) {
                if (want[i][what] >= 0) {
                    Bench.due("log(" + i + ", " + what + ")", desk.log(i, what), want[i][what]);
                }
            }
        }
    }

    /** CALLED, REFUNDED, WITHDRAWN tell the YEAR of now, whatever the act ahead of them told. */
    private static void loggedYears() {
        String loan = "lt5f0n1k2";
        for (String acts : new String[] {"c", "r", "cw", "rw"}) {
            RefundDesk desk = Bench.with(loan, "ud");
            for (int i = 0; i < acts.length(); i++) {
                desk.tell(4, 1, 300 + i);
                Bench.act(desk, acts.charAt(i));
                Bench.due("behind a RATE of year 4, " + acts + ": log(0, 1)", desk.log(0, 1), 2);
                desk.instal(3, 300 + i);
            }
        }
        RefundDesk desk = Bench.with("lt5f0n0k2", "ud");
        desk.tell(4, 1, 300);
        desk.refund();
        Bench.due("at once: log(0, 1)", desk.log(0, 1), 2);
        desk.instal(3, 5);
        desk.call();
        Bench.due("at once: log(0, 1)", desk.log(0, 1), 2);
    }

    private static void shown(String when, RefundDesk desk, int acts) {
        int length = Math.min(60, acts);
        Bench.due(when + ": count(3)", desk.count(3), length);
        for (int i = 0; i < length; i += i < 2 || i > 56 ? 1 : 5) {
            Bench.due(when + ": log(" + i + ", 1)", desk.log(i, 1), (acts - 1 - i) % 12);
            Bench.due(when + ": log(" + i + ", 0)", desk.log(i, 0), 6);
        }
        Bench.due(when + ": log(" + length + ", 1)", desk.log(length, 1), Bench.HIDDEN);
        Bench.due(when + ": log(-1, 1)", desk.log(-1, 1), Bench.HIDDEN);
    }
}
