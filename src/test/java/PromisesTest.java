import java.util.NoSuchElementException;

/** For each promise of the document: ordinary calls, the edges that it names, wrong inputs. */
public final class PromisesTest {
    private static final int NONE = -1;
    private static final int HIDDEN = -1000000;
    /** Two years, 100 per mille, rates 50; 40, 60. */
    private static final String TWO = "lp1000t2c100b50u10d10q50m20s5f1n0k1g0e5";
    /** Three years, 100 per mille, all rates 0, to be called at once at what is left. */
    private static final String FREE = "lp1000t3c100b0u0d0q50m0s0f0n0k0g0e0";
    /** Three years with one year's notice, rates 0 or 10 a step, one refund. */
    private static final String NOTICE = "lp1000t3c100b0u10d0q50m20s5f1n1k1g7e5";
    private static int wrong;
    private static int promise;

    public static void main(String[] args) {
        texts();
        loan();
        acts();
        records();
        outlook();
        policy();
        onTheEdge();
        scriptsAndImages();
        System.out.println(wrong == 0 ? "all promises are kept" : wrong + " answers are not as due");
        if (wrong != 0) {
            System.exit(1);
        }
    }

    private static void due(String call, long got, long want) {
        if (got != want) {
            wrong++;
            System.out.println("promise " + promise + ": " + call + " answered " + got + ", due is " + want);
        }
    }

    private static void due(String call, boolean got, boolean want) {
        due(call, got ? 1 : 0, want ? 1 : 0);
    }

    private static int feed(RefundDesk desk, String text) {
        int answer = desk.count(2);
        for (int from = 0; from < text.length(); from += 20) {
            int[] five = new int[5];
            for (int i = 0; i < 20 && from + i < text.length(); i++) {
                five[i / 4] |= (text.charAt(from + i) & 255) << (24 - 8 * (i % 4));
            }
            answer = desk.feed(five[0], five[1], five[2], five[3], five[4]);
        }
        return answer;
    }

    private static int take(RefundDesk desk, String text, int sort) {
        desk.end(0);
        feed(desk, text);
        return desk.text(sort);
    }

    private static RefundDesk with(String loan) {
        RefundDesk desk = new RefundDesk();
        take(desk, loan, 0);
        return desk;
    }

    private static RefundDesk ended(String loan) {
        RefundDesk desk = with(loan);
        for (int i = 0; i < 12 && desk.most(7) == 0; i++) {
            desk.up();
        }
        return desk;
    }

    private static int faultOf(String text, int sort) {
        RefundDesk desk = new RefundDesk();
        feed(desk, text);
        return desk.fault(sort);
    }

    private static int rateOf(RefundDesk desk, int year, int height) {
        try {
            return desk.rate(year, height);
        } catch (NoSuchElementException e) {
            return -77;
        }
    }

    private static void texts() {
        newObject();
        feeding();
        ending();
        loanFaults();
        scriptFaults();
        policyFaults();
        takingTexts();
    }

    private static void newObject() {
        promise = 1;
        RefundDesk desk = new RefundDesk();
        for (int what = 0; what < 5; what++) {
            due("count " + what, desk.count(what), 0);
        }
        for (int what = 0; what < 4; what++) {
            due("status " + what, desk.status(what), 0);
        }
        due("rule(1)", desk.rule(1), NONE);
        due("most(0)", desk.most(0), HIDDEN);
        due("rate(0, 0)", rateOf(desk, 0, 0), -77);
        due("text(0)", desk.text(0), NONE);
        due("undo()", desk.undo(), NONE);
    }

    private static void feeding() {
        promise = 2;
        RefundDesk desk = new RefundDesk();
        due("feed", desk.feed(0x6c000000, 0, 0, 0, 0), 1);
        due("bytes of 0 within", desk.feed(0x00700031, 0, 0x00003200, 0, 0x33), 5);
        due("they stand in order", desk.text(0), 5);
        due("p", desk.rule(0), 123);
        due("nothing fed", desk.feed(0, 0, 0, 0, 0), 0);
        due("high bytes", desk.feed(-1, 0x80000000, 0, 0, 0), 5);
        due("high bytes are no letters", desk.fault(0), 0);
        desk.end(0);
        for (int i = 1; i <= 15; i++) {
            due("twenty more", desk.feed(0x20202020, 0x20202020, 0x20202020, 0x20202020, 0x20202020), 20 * i);
        }
        due("a few", desk.feed(0x20202020, 0x20202020, 0, 0, 0), 308);
        due("321", desk.feed(0x20202020, 0x20202020, 0x20202020, 0x20, 0), NONE);
        due("nothing came", desk.count(2), 308);
        due("320", desk.feed(0x20202020, 0x20202020, 0x20202020, 0, 0), 320);
        due("one more", desk.feed(0, 0, 0, 0, 32), NONE);
        due("none more", desk.feed(0, 0, 0, 0, 0), 320);
        due("blanks alone", desk.fault(0), 320);
    }

    private static void ending() {
        promise = 3;
        RefundDesk desk = new RefundDesk();
        due("end(0)", desk.end(0), true);
        due("end(1)", desk.end(1), false);
        feed(desk, "lp12;q");
        due("end(7)", desk.end(7), false);
        due("end(-1)", desk.end(-1), false);
        due("end(-2147483648)", desk.end(Integer.MIN_VALUE), false);
        due("count(2)", desk.count(2), 6);
        due("end(6)", desk.end(6), true);
        due("end(4)", desk.end(4), true);
        due("count(2)", desk.count(2), 4);
        due("fault(0)", desk.fault(0), NONE);
        due("text(0)", desk.text(0), 5);
        due("p", desk.rule(0), 12);
    }

    private static void loanFaults() {
        promise = 4;
        String[] good = {"l", "i", "x", " l ", "l;i;x", "x;l;i", "lp9999", "lp1", "lp0001", "lt12", "lt1", "lc999", "lb999", "lu99",
            "ld99", "lq100", "lq0", "lm999", "ls99", "lf12", "ln2", "lk2", "lg99", "le999", "iy12a9999", "iy1a0", "xy11h11r999",
            "l p 1 0".substring(0, 5), "i a 5 y 2", "lepq".substring(0, 1), "le1p2q3", "x h1 y0", "i;i;i;i;i;i;i;i;i;i;i;i",
            "x;x;x;x;x;x;x;x;x;x;x;x;x;x;x;x;l"};
        for (String text : good) {
            due("fault(0) of " + text, faultOf(text, 0), NONE);
        }
        String[] bad = {"", "0", "   ", "3", "l;", "2", "l; ", "3", "p", "0", ";", "0", "L", "0", " z", "1", "lz", "1", "lp", "2",
            "lp;", "2", "lp 1 2", "5", "lpp1", "2", "lp1p2", "3", "lp0", "2", "lp00", "3", "lp10000", "6", "lp00000", "6",
            "lt0", "2", "lt13", "3", "lt130", "4", "lt99999", "6", "lc1000", "5", "lb1000", "5", "lu100", "4", "ld100", "4",
            "lq101", "4", "lm1000", "5", "ls100", "4", "lf13", "3", "ln3", "2", "lk3", "2", "lg100", "4", "le1000", "5",
            "l;l", "2", "i;l;x;l", "6", "iy0", "2", "iy13", "3", "ia10000", "6", "xy12", "3", "xh12", "3", "xr1000", "5",
            "iy1y2", "3", "xa1", "1", "ir1", "1", "lp1;p", "4", "lp1,", "3", "lp-1", "2", "l\t", "1",
            "i;i;i;i;i;i;i;i;i;i;i;i;i", "24", "x;x;x;x;x;x;x;x;x;x;x;x;x;x;x;x;x", "32", "x;x;x;x;x;x;x;x;x;x;x;x;x;x;x;x;", "32"};
        for (int i = 0; i < bad.length; i += 2) {
            due("fault(0) of " + bad[i], faultOf(bad[i], 0), Integer.parseInt(bad[i + 1]));
        }
        RefundDesk desk = new RefundDesk();
        due("fault(3)", desk.fault(3), -2);
        due("fault(-1)", desk.fault(-1), -2);
        feed(desk, "lq");
        due("it is asked twice", desk.fault(0) + desk.fault(0), 4);
        due("the tape stays", desk.count(2), 2);
    }

    private static void scriptFaults() {
        String[] good = {"u", "d", "c", "r", "w", "b", "a", "f", "i1,2", "x1,2,3", " u ; d ", "i 1 , 2", "x 9999 ,0, 0000", "i0,9999",
            "u;u;u;u;u;u;u;u;u;u;u;u;u;u;u;u"};
        for (String text : good) {
            due("fault(1) of " + text, faultOf(text, 1), NONE);
        }
        String[] bad = {"", "0", " ", "1", "u;", "2", "u,", "1", "uu", "1", "u1", "1", "i", "1", "i;", "1", "i1", "2", "i1;", "2",
            "i1,", "3", "i,1", "1", "i1,2,3", "4", "i1 2", "3", "x1,2", "4", "x1,2;u", "4", "x1,2,3,4", "6", "i10000,1", "5",
            "i1,00000", "7", "x1,2,99999", "9", "l", "0", "p", "0", ";u", "0", "u;;u", "2",
            "u;u;u;u;u;u;u;u;u;u;u;u;u;u;u;u;", "31", "u;u;u;u;u;u;u;u;u;u;u;u;u;u;u;u ;u", "32"};
        for (int i = 0; i < bad.length; i += 2) {
            due("fault(1) of " + bad[i], faultOf(bad[i], 1), Integer.parseInt(bad[i + 1]));
        }
    }

    private static void policyFaults() {
        String most = "p;p;p;p;p;p;p;p;p;p;p;p;p;p;p;p;p;p;p;p;p;p;p;p";
        String[] good = {"p", "py11h11a2", "p a1 h0 y0", "p;p", most, "pa0"};
        for (String text : good) {
            due("fault(2) of " + text, faultOf(text, 2), NONE);
        }
        String[] bad = {"", "0", "l", "0", "x", "0", "p;", "2", "py12", "3", "ph12", "3", "pa3", "2", "pr1", "1", "pa1a1", "3",
            "py00000", "6", "p;l", "2", most + ";p", "48", most + ";", "48", "p p", "2"};
        for (int i = 0; i < bad.length; i += 2) {
            due("fault(2) of " + bad[i], faultOf(bad[i], 2), Integer.parseInt(bad[i + 1]));
        }
    }

    private static void takingTexts() {
        promise = 5;
        RefundDesk desk = new RefundDesk();
        due("a policy without a loan", take(desk, "p", 2), NONE);
        due("its tape stays", desk.count(2), 1);
        due("text(3)", desk.text(3), NONE);
        due("text(-1)", desk.text(-1), NONE);
        due("a fault", take(desk, "lt13", 0), NONE);
        due("the tape stays", desk.count(2), 4);
        due("a loan", take(desk, "iy1a100;iy1a200;iy3a7;lt3;xy1h1r9;xy3h0r9;xy1h2r9;iy12a9;xy1h1r8", 0), 3);
        due("the tape is empty", desk.count(2), 0);
        due("the last one holds", desk.year(1, 0), 200);
        due("one of the last year is left out", desk.year(3, 0), 800);
        due("x", rateOf(desk, 1, 1), 8);
        due("plain", rateOf(desk, 1, 0), 40);
        RefundDesk plain = new RefundDesk();
        due("items that are not told", take(plain, "i;ia70;xr9;xy1r8;l", 0), 5);
        due("an instalment of year 1", plain.year(1, 0), 70);
        due("a rate of (0, 0)", rateOf(plain, 0, 0), 9);
        due("a rate of (1, 0)", rateOf(plain, 1, 0), 8);
        due("an amount of 0", take(plain, "iy2a5;iy2;xy1h1", 0) * 100 + plain.year(2, 0), 500);
        due("a rate of 0", rateOf(plain, 1, 1), 0);
        due("a deed of (0, 0)", take(plain, "py1;pa2", 2), 1);
        due("it", plain.deed(0, 0), 2);
        due("policy", take(desk, "py1h0a1;py1h1a2;py3h0a1;py1h1a1;py0h1a2;py2h2a0;py2h1a2", 2), 3);
        due("deed", desk.deed(1, 1), 1);
        due("policy anew", take(desk, "py2h2a2", 2), 1);
        due("nothing else is told", desk.deed(1, 1), 0);
        desk.call();
        desk.up();
        desk.image();
        due("script 0", take(desk, "u;d", 1), 0);
        due("script 1", take(desk, "d", 1), 1);
        due("script 2", take(desk, "b", 1), 2);
        due("script 3", take(desk, "a", 1), 3);
        due("a fifth", take(desk, "a", 1), NONE);
        due("its tape stays", desk.count(2), 1);
        due("another loan", take(desk, "l", 0), 5);
        due("scripts stay", desk.count(1), 4);
        due("status stays", desk.status(3), 1);
        due("the log is gone", desk.count(3), 0);
        due("no act of another loan is undone", desk.undo(), NONE);
        due("its image is gone", desk.back(), NONE);
        due("its policy is gone", desk.deed(2, 2), 0);
        due("its rates are gone", rateOf(desk, 1, 1), 60);
        due("its instalments are gone", desk.year(1, 0), 0);
        due("year 0", desk.most(4), 0);
        due("a refused loan", take(desk, "l;l", 0), NONE);
        due("the loan stays", desk.count(0), 5);
    }

    private static void loan() {
        promise = 6;
        RefundDesk desk = with("l");
        int[] plain = {1000, 5, 50, 50, 10, 10, 50, 20, 5, 1, 0, 1, 0, 5};
        for (int what = 0; what < 14; what++) {
            due("rule " + what, desk.rule(what), plain[what]);
        }
        desk = with("lp1t2c3b4u5d6q7m8s9f10n1k2g11e12");
        int[] told = {1, 2, 3, 4, 5, 6, 7, 8, 9, 10, 1, 2, 11, 12};
        for (int what = 0; what < 14; what++) {
            due("rule " + what, desk.rule(what), told[what]);
        }
        due("rule(14)", desk.rule(14), NONE);
        due("rule(-1)", desk.rule(-1), NONE);
        desk = with("lt3c100b60f0k2g3");
        desk.refund();
        due("the coupon now", desk.rule(2), 63);
        due("refunds left", desk.rule(11), 1);

        promise = 7;
        desk = with("lt12b50u99d40;xy11h0r0;xy2h1r777");
        due("base", rateOf(desk, 0, 0), 50);
        due("up", rateOf(desk, 1, 1), 149);
        due("down", rateOf(desk, 1, 0), 10);
        due("0 at least", rateOf(desk, 2, 0), 0);
        due("999 at most", rateOf(desk, 11, 11), 999);
        due("both", rateOf(desk, 3, 2), 208);
        due("told", rateOf(desk, 2, 1), 777);
        for (int[] no : new int[][] {{-1, 0}, {0, -1}, {0, 1}, {11, 12}, {12, 0}, {12, 12}, {Integer.MAX_VALUE, 0}, {5, Integer.MIN_VALUE}}) {
            due("no node " + no[0] + ", " + no[1], rateOf(desk, no[0], no[1]), -77);
        }

        promise = 8;
        desk = with("lp1001t3c999m20s15;iy1a400;iy2a9999");
        int[][] years = {{NONE, NONE, NONE, 1001, 1021}, {400, 999, 1399, 601, 604}, {601, 600, 1201, 0, 0}, {0, 0, 0, 0, 0}};
        for (int year = 0; year <= 3; year++) {
            for (int what = 0; what < 5; what++) {
                due("year(" + year + ", " + what + ")", desk.year(year, what), years[year][what]);
            }
        }
        due("year(4, 3)", desk.year(4, 3), NONE);
        due("year(-1, 3)", desk.year(-1, 3), NONE);
        due("year(1, 5)", desk.year(1, 5), NONE);
        due("year(1, -1)", desk.year(1, -1), NONE);
        desk = with("lp1000t2c100b60f0");
        desk.refund();
        due("interest by the coupon now", desk.year(1, 1), 60);
        costs();
    }

    private static void costs() {
        promise = 9;
        RefundDesk desk = with(FREE);
        due("costs", desk.costs(0, 0, 0), 1000);
        due("held: a year, then called", desk.costs(0, 0, 1), 1100);
        due("called", desk.costs(0, 0, 2), 1000);
        due("no refunds", desk.costs(0, 0, 3), NONE);
        due("what is asked first", desk.costs(9, 9, 4), HIDDEN);
        due("what -1", desk.costs(0, 0, -1), HIDDEN);
        for (int[] no : new int[][] {{-1, 0}, {0, -1}, {0, 1}, {3, 0}, {2, 3}}) {
            due("no node", desk.costs(no[0], no[1], 0), NONE);
        }
        desk = with(NOTICE);
        // year 2: 1,100 a year on, by the rate; year 1 held: 100 and that; called: 100 and 1,010, by the rate.
        due("held (2, 2)", desk.costs(2, 2, 1), 1078);
        due("called too late", desk.costs(2, 2, 2), NONE);
        due("held (1, 0)", desk.costs(1, 0, 1), 1194);
        due("called (1, 0)", desk.costs(1, 0, 2), 1110);
        // refunded at (2, 0): 10, 5 and 1,007; at (2, 1): 15 and 1,017 by 1.010, cut: 1,006
        due("refunded (1, 0)", desk.costs(1, 0, 3), 1121);
        due("costs (1, 0)", desk.costs(1, 0, 0), 1110);
        due("called ahead of FIRST", desk.costs(0, 0, 2), NONE);
        due("a table behind a refund", with(TWO).costs(1, 1, 3), 1020);
        desk = with("lp1000t2c50b50u0d0f0k1");
        due("a refund", desk.costs(0, 0, 3), 1025);
        desk.refund();
        due("the coupon is the same, but none is left", desk.costs(0, 0, 3), NONE);
        due("of all years, ended, too", ended(FREE).costs(0, 0, 1), 1100);
        desk = with(NOTICE);

        promise = 10;
        due("best (1, 0)", desk.best(1, 0), 1);
        due("best (2, 0)", desk.best(2, 0), 0);
        due("best (0, 0)", desk.best(0, 0), 0);
        due("refunded is best", with("lp1000t9c200b10u1d1f0m0e0k1").best(0, 0), 2);
        due("of several the first", with("lp1000t1c0b0f0m0e0").best(0, 0), 0);
        due("called and refunded alike", with("lp1000t1c10b0f0m0e0").best(0, 0), 1);
        due("no node", desk.best(3, 0), NONE);
        due("no node", desk.best(1, 2), NONE);
        due("no node", desk.best(-1, 0), NONE);
        due("of all years, ended, too", ended(FREE).best(0, 0), 1);
    }

    private static void acts() {
        promise = 11;
        RefundDesk desk = with("lp1000t2c100;iy1a300");
        due("up", desk.up(), 400);
        due("the last year", desk.up(), 770);
        due("ended", desk.most(7), 1);
        due("height", desk.most(5), 2);
        due("ended", desk.up(), NONE);
        due("status", desk.status(0), 1);
        due("no loan", new RefundDesk().up(), NONE);
        promise = 12;
        desk = with("lp1000t2c100;iy1a300");
        due("down", desk.down(), 400);
        due("height", desk.most(5), 0);
        due("down", desk.down(), 770);
        due("down", desk.down(), NONE);
        due("status", desk.status(0), 1);
        due("paid", desk.most(0), 1170);

        promise = 13;
        desk = with(TWO);
        due("call ahead of FIRST", desk.call(), NONE);
        due("status 3", desk.status(3), 1);
        desk.up();
        due("call", desk.call(), 1015);
        due("ended", desk.most(7), 1);
        due("call again", desk.call(), NONE);
        due("status 0", desk.status(0), 1);
        desk = with(NOTICE);
        desk.down();
        due("call with notice", desk.call(), 0);
        due("notice runs", desk.call(), NONE);
        due("notice runs", desk.refund(), NONE);
        due("status 2", desk.status(2), 2);
        due("it runs out", desk.up(), 100 + 1010);
        due("ended", desk.most(7), 1);
        desk = with(NOTICE);
        desk.down();
        desk.down();
        due("too late", desk.call(), NONE);
        due("status 3", desk.status(3), 1);

        promise = 14;
        desk = with(TWO);
        due("refund ahead of FIRST", desk.refund(), NONE);
        desk.up();
        due("refund", desk.refund(), 20);
        due("coupon", desk.rule(2), 60);
        due("no refunds left", desk.refund(), NONE);
        due("status 3", desk.status(3), 2);
        due("fees", desk.most(3), 5);
        desk = with(NOTICE);
        desk.down();
        due("with notice", desk.refund(), 0);
        due("coupon still", desk.rule(2), 100);
        due("it runs out", desk.up(), 100 + 10 + 5);
        due("coupon: the rate there and spread", desk.rule(2), 17);
        due("notice is over", desk.most(8), 0);
        due("999 at most", couponAfter("lt2b990g99f0"), 999);
        moreActs();
    }

    private static int couponAfter(String loan) {
        RefundDesk desk = with(loan);
        desk.refund();
        return desk.rule(2);
    }

    private static void moreActs() {
        promise = 15;
        RefundDesk desk = with("lt5n2f0");
        due("no notice", desk.withdraw(), NONE);
        due("status 2", desk.status(2), 1);
        desk.call();
        due("withdraw", desk.withdraw(), 2);
        desk.refund();
        desk.up();
        due("withdraw", desk.withdraw(), 1);
        due("none runs", desk.most(8) + desk.most(9), 0);
        due("no loan", new RefundDesk().withdraw(), NONE);

        promise = 16;
        desk = with("lp1000t4;iy2a50");
        due("told", desk.instal(2, 60), 50);
        due("not told yet", desk.instal(3, 9999), 0);
        due("it is so", desk.instal(2, 60), NONE);
        due("0 without", desk.instal(1, 0), NONE);
        due("status 2", desk.status(2), 2);
        due("-1", desk.instal(2, -1), NONE);
        due("10000", desk.instal(2, 10000), NONE);
        due("status 1", desk.status(1), 2);
        due("the last year, ahead of the amount", desk.instal(4, -1), NONE);
        due("this year", desk.instal(0, 5), NONE);
        due("no year", desk.instal(Integer.MAX_VALUE, 5), NONE);
        due("no year", desk.instal(-5, 5), NONE);
        due("status 0", desk.status(0), 4);
        desk.up();
        due("past", desk.instal(1, 5), NONE);
        due("left", desk.year(3, 3), 0);

        promise = 17;
        desk = with("lt4");
        due("tell", desk.tell(0, 0, 999), 50);
        due("tell", desk.tell(3, 3, 0), 80);
        due("it is so", desk.tell(0, 0, 999), NONE);
        due("status 2", desk.status(2), 1);
        due("1000", desk.tell(0, 0, 1000), NONE);
        due("-1", desk.tell(0, 0, -1), NONE);
        due("status 1", desk.status(1), 2);
        due("no node, ahead of the rate", desk.tell(4, 0, -1), NONE);
        due("no node", desk.tell(1, 2, 5), NONE);
        due("no node", desk.tell(-1, 0, 5), NONE);
        due("no node", desk.tell(2, -1, 5), NONE);
        due("status 0", desk.status(0), 4);
        desk.up();
        due("past", desk.tell(0, 0, 5), NONE);
        due("can't be come to", desk.tell(2, 0, 5), NONE);
        due("can be", desk.tell(2, 1, 5), 50);
        desk.down();
        due("can't be", desk.tell(2, 2, 5), NONE);
        due("can't be", desk.tell(3, 3, 5), NONE);
        due("can be", desk.tell(3, 2, 5), 60);
        due("here", desk.tell(2, 1, 6), 5);

        promise = 18;
        desk = with(TWO);
        due("held is best", desk.doBest(), NONE);
        due("status 2", desk.status(2), 1);
        desk.down();
        due("called", desk.doBest(), 1);
        due("ended", desk.doBest(), NONE);
        due("status 0", desk.status(0), 1);
        desk = with("lp1000t9c200b10u1d1f0m0e0k1n1");
        due("refunded", desk.doBest(), 2);
        due("notice of a refund", desk.most(8), 2);
        due("notice runs", desk.doBest(), NONE);
        due("status 2", desk.status(2), 1);

        promise = 19;
        desk = with(TWO);
        due("adopt", desk.adopt(), 2);
        due("deed", desk.deed(1, 1), 1);
        due("it is so", desk.adopt(), NONE);
        due("status 2", desk.status(2), 1);
        take(desk, "py0h0a2;py1h0a1;py1h1a1", 2);
        due("what may not be is changed, too", desk.adopt(), 1);
        take(desk, "py0h0a2", 2);
        desk.up();
        due("only what can still be come to", desk.adopt(), 1);
        due("past", desk.deed(0, 0), 2);
        due("past", desk.deed(1, 0), 0);
        due("ended", ended(TWO).adopt(), NONE);

        promise = 20;
        desk = with(TWO);
        due("it says held", desk.follow(), NONE);
        take(desk, "py0h0a1;py1h0a2;py1h1a1", 2);
        due("it may not be", desk.follow(), NONE);
        due("status 2", desk.status(2), 2);
        desk.down();
        due("refunded", desk.follow(), 2);
        due("no refunds left", desk.follow(), NONE);
        due("status 2", desk.status(2), 3);
        desk.undo();
        desk.undo();
        desk.up();
        due("called", desk.follow(), 1);
        due("ended", desk.follow(), NONE);
        due("status 0", desk.status(0), 1);
        desk = with("lt4f0n2");
        take(desk, "pa1", 2);
        due("notice", desk.follow(), 1);
        due("notice runs", desk.follow(), NONE);
        due("status 2", desk.status(2), 1);
    }

    private static long drawn;

    private static int draw(int of) {
        drawn = drawn * 6364136223846793005L + 1442695040888963407L;
        return (int) ((drawn >>> 33) % of);
    }

    /** The same acts by the face itself, as the draws tell them. */
    private static void twin(RefundDesk desk, int n, long seed, int odds) {
        drawn = seed;
        for (int i = 0; i < n; i++) {
            int sort = draw(8);
            if (sort < 3) {
                int on = draw(100) < odds ? desk.up() : desk.down();
            } else if (sort == 3) {
                desk.doBest();
            } else if (sort == 4) {
                int which = draw(3);
                int on = which == 0 ? desk.call() : which == 1 ? desk.refund() : desk.withdraw();
            } else if (sort == 5) {
                int year = draw(12) + 1;
                desk.instal(year, draw(1000));
            } else {
                int year = draw(12);
                int height = draw(12);
                desk.tell(year, height, draw(200));
            }
        }
    }

    private static void records() {
        promise = 21;
        for (long seed = -40; seed < 40; seed++) {
            String loan = seed % 2 == 0 ? "lt12c90q30f0n1k2" : "lt9c60q70f3k2";
            RefundDesk one = with(loan);
            RefundDesk two = with(loan);
            int n = (int) Math.abs(seed) + (seed == 0 ? 1 : 0);
            int paid = one.years(n, seed * 1234567890123L);
            twin(two, n, seed * 1234567890123L, seed % 2 == 0 ? 30 : 70);
            due("paid by years", paid, two.most(0));
            for (int what = 0; what < 12; what++) {
                due("most " + what, one.most(what), two.most(what));
            }
            for (int i = 0; i < 41; i++) {
                due("log", one.log(i, 0) * 31 + one.log(i, 1), two.log(i, 0) * 31 + two.log(i, 1));
            }
            due("no status", one.status(0) + one.status(1) + one.status(2) + one.status(3), 0);
        }
        RefundDesk desk = with(TWO);
        due("years(0)", desk.years(0, 1), NONE);
        due("years(41)", desk.years(41, 1), NONE);
        due("years(-1)", desk.years(-1, 1), NONE);
        due("no loan", new RefundDesk().years(1, 1), NONE);
        due("ended: paid", ended(TWO).years(40, 7), 1200);
        due("no status", desk.status(0) + desk.status(1), 0);

        promise = 22;
        due("status(-1)", desk.status(-1), NONE);
        due("status(4)", desk.status(4), NONE);
        new RefundDesk().up();
        desk.instal(1, -1);
        desk.tell(7, 0, 0);
        desk.withdraw();
        desk.refund();
        due("each its own", desk.status(0) * 1000 + desk.status(1) * 100 + desk.status(2) * 10 + desk.status(3), 1111);
        desk.up();
        desk.undo();
        due("it is not undone", desk.status(0) * 1000 + desk.status(1) * 100 + desk.status(2) * 10 + desk.status(3), 1111);
        desk.image();
        desk.withdraw();
        desk.back();
        due("it is not brought back", desk.status(2), 2);
        undoAndLog();
    }

    private static void undoAndLog() {
        promise = 23;
        RefundDesk desk = with("lt12f0n1k2;iy3a5");
        due("none", desk.undo(), NONE);
        desk.call();
        desk.up();
        due("ended", desk.most(7), 1);
        due("undo", desk.undo(), 1);
        due("notice runs again", desk.most(8) * 10 + desk.most(9), 11);
        desk.withdraw();
        desk.instal(3, 9);
        desk.tell(5, 5, 1);
        desk.adopt();
        take(desk, "py9h9a2", 2);
        due("the policy told goes with the rest", desk.undo(), 4);
        due("deed", desk.deed(9, 9), 0);
        due("adopt again", desk.adopt() > 0 ? 1 : 0, 1);
        desk.undo();
        desk.undo();
        due("rate", rateOf(desk, 5, 5), 100);
        desk.undo();
        due("instalment", desk.instal(3, 5), NONE);
        due("undo", desk.undo(), 1);
        due("notice", desk.most(8), 1);
        due("undo", desk.undo(), 0);
        due("undo", desk.undo(), NONE);
        desk = with("lt12");
        for (int i = 0; i < 45; i++) {
            desk.tell(0, 0, 100 + i);
            desk.tell(0, 0, 100 + i);
        }
        due("40", desk.count(4), 40);
        for (int i = 39; i >= 0; i--) {
            due("undo", desk.undo(), i);
        }
        due("none more", desk.undo(), NONE);
        due("as after five", rateOf(desk, 0, 0), 104);

        promise = 24;
        desk = with("lt12c50n1f0k2");
        due("empty", desk.log(0, 0), HIDDEN);
        desk.refund();
        desk.up();
        desk.call();
        desk.withdraw();
        desk.instal(7, 70);
        desk.tell(9, 3, 7);
        desk.down();
        desk.adopt();
        int others = 0;
        for (int t = 2; t < 12; t++) {
            for (int h = 1; h < t; h++) {
                others += desk.deed(t, h) != 0 ? 1 : 0;
            }
        }
        // 50 in the first year, 15 and the fee as notice ran out, then 60 by the new coupon
        int[][] log = {{8, others, 130}, {1, 2, 130}, {6, 9, 70}, {5, 7, 70}, {4, 1, 70}, {2, 1, 70}, {0, 1, 70}, {3, 0, 0}};
        for (int what = 0; what < 3; what++) {
            for (int i = 0; i < log.length; i++) {
                due("log(" + i + ", " + what + ")", desk.log(i, what), log[i][what]);
            }
        }
        due("log(8, 0)", desk.log(8, 0), HIDDEN);
        due("log(-1, 0)", desk.log(-1, 0), HIDDEN);
        due("log(0, 3)", desk.log(0, 3), HIDDEN);
        due("log(0, -1)", desk.log(0, -1), HIDDEN);
        desk = with("lt12");
        for (int i = 0; i < 110; i++) {
            desk.tell(i % 12, 0, 100 + i);
        }
        due("60", desk.count(3), 60);
        due("the latest", desk.log(0, 1), 109 % 12);
        due("the first shown", desk.log(59, 1), 50 % 12);
        due("no more", desk.log(60, 1), HIDDEN);
        for (int i = 0; i < 40; i++) {
            desk.undo();
        }
        due("still 60", desk.count(3), 60);
        due("the latest", desk.log(0, 1), 69 % 12);
        due("the first shown", desk.log(59, 1), 10);
    }

    private static void outlook() {
        promise = 25;
        RefundDesk desk = with(TWO);
        due("paid", desk.way(0, 0), 1115);
        due("year", desk.way(0, 2), 1);
        desk = with("lp1000t9c200b10u20d0q100f0m0e7k1");
        // rates only rise: refunded at once at 10 per mille; nothing more is done with it
        due("paid", desk.way(511, 0), 7 + 9 * 10 + 1000);
        due("refunds", desk.way(511, 1), 1);
        due("run through", desk.way(511, 2), 9);
        due("no what", desk.way(0, 3), NONE);
        due("no what", desk.way(0, -1), NONE);
        due("moves below 0", desk.way(-1, 0), NONE);
        due("ended", ended(TWO).way(0, 0), NONE);
        due("no loan", new RefundDesk().way(0, 0), NONE);
        desk = with("lp1000t2c0b500u99d99q50f2;xy1h1r5");
        due("held", desk.way(Integer.MAX_VALUE, 0), 1000);
        // down: called at (1, 0) for 1,098, held it would be 1,148; up: held at (1, 1) for 806, called 917
        desk = with("lp1000t4c100b100u99d99q50f1n1m0s0e0k0");
        due("notice by a way", desk.way(0, 2) * 10000 + desk.way(0, 0), 21200);
        due("held by another", desk.way(15, 2) * 10000 + desk.way(15, 0), 41400);

        promise = 26;
        desk = with("lp1000t3q33f12");
        due("here", desk.mass(0, 0), 1000000000);
        due("up", desk.mass(1, 1), 330000000);
        due("down", desk.mass(1, 0), 670000000);
        due("both", desk.mass(2, 1), 330000000 / 100 * 67 + 670000000 / 100 * 33);
        due("no node", desk.mass(3, 0), NONE);
        due("no node", desk.mass(2, 3), NONE);
        due("no node", desk.mass(-1, 0), NONE);
        desk.up();
        due("past", desk.mass(0, 0), NONE);
        due("of the same year, not here", desk.mass(1, 0), 0);
        due("here", desk.mass(1, 1), 1000000000);
        due("ended", ended(TWO).mass(1, 1), NONE);
        due("cut", with("lt5q33f12").mass(4, 4), 11859210);
        due("cut", with("lt6q33f12").mass(5, 5), 3913539);
        due("where best is not held it goes no further", with(FREE).mass(1, 0), 0);

        promise = 27;
        due("called", with(TWO).masses(0), 1000000000);
        due("refunded", with("lp1000t9c200b10u1d1f0m0e0k1").masses(1), 1000000000);
        due("come to the end", with("lt5f12").masses(2), 1000000000);
        desk = with("lp1000t3c100b100u60d60q30f1m0s0e0k0");
        due("called", desk.masses(0), 700000000 + 0);
        due("refunded", desk.masses(1), 0);
        due("to the end", desk.masses(2), 300000000);
        due("no what", desk.masses(3), NONE);
        due("no what", desk.masses(-1), NONE);
        due("ended", ended(TWO).masses(0), NONE);

        promise = 28;
        due("worth", with(FREE).worth(), 300);
        due("worth", with(TWO).worth(), 31);
        due("no right", with("lt5f12").worth(), 0);
        due("ended", ended(FREE).worth(), NONE);
        due("no loan", new RefundDesk().worth(), NONE);

        promise = 29;
        due("margin", with(FREE).margin(), 100);
        due("neither may", with(TWO).margin(), HIDDEN);
        due("below 0", with("lp1000t2c0b0u0d0f0m100s0e0k0").margin(), -100);
        due("the lesser one", with("lp1000t2c0b0u0d0f0m100s0e9k1").margin(), -100);
        due("a refund is the lesser one", with("lp1000t1c10b20u0d0f0m10s0e0k1").margin(), 990 - 1010);
        due("ended", ended(FREE).margin(), HIDDEN);
        due("no loan", new RefundDesk().margin(), HIDDEN);
        moreOutlook();
    }

    /** The same by trying: one year, 50 of premium, 7 of fee, 1,900 due. */
    private static int tillOfOneYear() {
        int found = NONE;
        for (int rate = 0; rate < 1000; rate++) {
            int held = 1900 * 1000 / (1000 + rate);
            int refunded = 57 + (1000 + rate) * 1000 / (1000 + rate);
            found = 1050 < held || refunded < held ? rate : found;
        }
        return found;
    }

    private static void moreOutlook() {
        promise = 30;
        // 1,100,000 by (1,000 and the rate) is 1,001 or more up to 98
        due("till", with(FREE).till(), 98);
        due("may not be", with(TWO).till(), NONE);
        due("none", with("lp1000t2c0b0u0d0f0m100s0e0k0").till(), NONE);
        due("up to a high one", with("lp1000t2c999b0u0d0f0m0s0e0k0").till(), 997);
        due("all", with("lp1000t2c999b0u0d0f0n1m0s0e0k0").till(), 999);
        due("by a refund", with("lp1000t1c900f0m50s0e7k1").till(), tillOfOneYear());
        // called it would cost 1,000 or more; the new loan's coupon is 5, and the rates rise behind it
        due("by a refund with notice", with("lp1000t6c30b5u60d0q100m0e0f0n1k1;xy1h1r5").till(), 999);
        due("not by a call", with("lp1000t6c30b5u60d0q100m0e0f0n1k0;xy1h1r5").till(), NONE);
        due("ended", ended(FREE).till(), NONE);
        due("no loan", new RefundDesk().till(), NONE);
        RefundDesk desk = with("lp1000t5c80b60u10d10f0m20s5e7k2g3n1");
        int till = desk.till();
        due("with notice", till >= 0 ? 1 : 0, 1);
        desk.tell(0, 0, till);
        due("at it", desk.best(0, 0) != 0, true);
        for (int rate = till + 1; rate < 1000; rate += 13) {
            desk.tell(0, 0, rate);
            due("above it", desk.best(0, 0), 0);
        }

        promise = 31;
        desk = with("lp1000t3c100b100u60d60q30f1m0s0e0k0");
        due("edge(1)", desk.edge(1), 1);
        due("edge(0)", desk.edge(0), 0);
        due("edge(2)", desk.edge(2), 1);
        due("none", with(FREE).edge(0), NONE);
        due("no year", desk.edge(3), NONE);
        due("no year", desk.edge(-1), NONE);
        due("no loan", new RefundDesk().edge(0), NONE);
        due("ended, too", ended("lt3f12").edge(0), 0);

        promise = 32;
        due("fair of one year", with("lp1000t1b50f12").fair(), 51);
        due("by a rate of 0", with("lp1000t1b0f12").fair(), 0);
        due("as it may be called", with(FREE).fair(), 999);
        due("ended", ended(FREE).fair(), NONE);
        due("no loan", new RefundDesk().fair(), NONE);
        due("of one that is too small", with("lp1t2b0f12").fair(), 999);

        promise = 33;
        desk = with("lp1000t3c100b100u60d60q30f1m0s0e0k0");
        due("ending(1, 0)", desk.ending(1, 0), 700000000);
        due("ending(0, 0)", desk.ending(0, 0), 0);
        due("ending(2, 0)", desk.ending(2, 0), 0);
        due("ending(1, 1)", desk.ending(1, 1), 0);
        due("refunded", with("lp1000t9c200b10u1d1f0m0e0k1").ending(0, 1), 1000000000);
        due("no year", desk.ending(3, 0), NONE);
        due("no year", desk.ending(-1, 0), NONE);
        due("no what", desk.ending(1, 2), NONE);
        due("no what", desk.ending(1, -1), NONE);
        desk.up();
        due("past", desk.ending(0, 0), NONE);
        due("this year", desk.ending(1, 0), 0);
        due("ended", ended(FREE).ending(0, 0), NONE);

        promise = 34;
        due("nothing", with(TWO).saved(), 0);
        // refunded at once: 15, and 952 for the new loan at 10, as the rate rises to 60; else called for 1,010
        due("saved", with("lp1000t2c100b10u50d0q100f0m10s0e5k1").saved(), 1010 - 967);
        due("ended", ended(TWO).saved(), NONE);
        due("no loan", new RefundDesk().saved(), NONE);

        promise = 35;
        desk = with("lp1000t3c100;iy1a400");
        due("interest", desk.sums(0), 100 + 60 + 60);
        due("instalments", desk.sums(1), 1000);
        desk.up();
        due("interest", desk.sums(0), 120);
        due("instalments", desk.sums(1), 600);
        due("no what", desk.sums(2), NONE);
        due("no what", desk.sums(-1), NONE);
        due("ended", ended(TWO).sums(0), NONE);
        due("no loan", new RefundDesk().sums(1), NONE);
    }

    private static void policy() {
        promise = 36;
        RefundDesk desk = with(TWO);
        due("at first", desk.deed(1, 1), 0);
        take(desk, "py1h1a2;py0h0a1", 2);
        due("told", desk.deed(1, 1), 2);
        due("told, though it may not be", desk.deed(0, 0), 1);
        due("no node", desk.deed(2, 0), NONE);
        due("no node", desk.deed(1, 2), NONE);
        due("no node", desk.deed(-1, 0), NONE);
        due("no loan", new RefundDesk().deed(0, 0), NONE);

        promise = 37;
        due("what may not be is held", desk.byPolicy(0, 0), 1084);
        due("refunded", desk.byPolicy(1, 1), 1020);
        due("held", desk.byPolicy(1, 0), 1057);
        desk = with("lp1000t2c100b0u0d0f0m10s0e5k2");
        take(desk, "py0h0a2", 2);
        due("the new loan goes by it, too", desk.byPolicy(0, 0), 15 + 15 + 1000);
        take(desk, "py1h0a1;py0h0a2", 2);
        // twice refunded at once; then half of the ways are called for 10 more
        due("behind it", desk.byPolicy(0, 0), 15 + 15 + 1005);
        due("no node", desk.byPolicy(2, 0), NONE);
        due("no node", desk.byPolicy(1, -1), NONE);
        due("no loan", new RefundDesk().byPolicy(0, 0), NONE);

        promise = 38;
        desk = with(TWO);
        due("regret", desk.regret(), 31);
        desk.adopt();
        due("none", desk.regret(), 0);
        due("ended", ended(TWO).regret(), NONE);
        due("no loan", new RefundDesk().regret(), NONE);

        promise = 39;
        desk = with(TWO);
        take(desk, "py0h0a2;py1h0a1", 2);
        due("how many", desk.strays(0), 1);
        due("year", desk.strays(1), 1);
        due("height", desk.strays(2), 1);
        due("no what", desk.strays(3), NONE);
        due("no what", desk.strays(-1), NONE);
        desk.down();
        due("not to be come to any more", desk.strays(0), 0);
        due("there is none", desk.strays(1), NONE);
        due("there is none", desk.strays(2), NONE);
        due("ended", ended(TWO).strays(0), NONE);

        promise = 40;
        desk = with(TWO);
        due("mended", desk.mended(1, 0), 1);
        due("mended", desk.mended(1, 1), 1);
        due("may not be", desk.mended(0, 0), 0);
        due("no node", desk.mended(2, 0), NONE);
        due("no node", desk.mended(0, 1), NONE);
        due("no loan", new RefundDesk().mended(0, 0), NONE);
        desk = with("lp1000t3c100b100u0d0f0m0s0e0k0;xy2h0r0;xy2h1r0;xy2h2r0");
        // held always (0, 0) costs 1,074; if the year 2 is called, 1,000
        due("by the policy", desk.mended(0, 0), 1);
        take(desk, "py2h0a1;py2h1a1;py2h2a1", 2);
        due("by another policy", desk.mended(0, 0), 0);

        promise = 41;
        due("one round", with(TWO).rounds(), 1);
        desk = with(TWO);
        desk.adopt();
        due("none changes", desk.rounds(), 0);
        take(desk, "py0h0a2;py1h0a1;py1h1a1", 2);
        due("what may not be is mended, too", desk.rounds(), 1);
        due("the policy stays", desk.deed(0, 0), 2);
        desk = with("lp1000t3c100b100u0d0f0m0s0e0k0;xy2h0r0;xy2h1r0;xy2h2r0");
        due("two rounds", desk.rounds(), 2);
        desk = with("lp5883t11c184b83u53d14q97m6s1f2n0k2g6e4;xy6h6r50;xy0h0r124;xy9h8r185;xy6h3r165;xy1h1r32;xy3h3r152;xy5h1r17");
        due("deeds", take(desk, "py3h0a1;py7h6a1;py2h0a2;py10h0a1;py11h11a2;py2h1a1;py4h4a2;py7h4a2;py8h6a1;py0h0a1;py2h2a1", 2), 10);
        due("they never settle", desk.rounds(), NONE);
        due("ended", ended(TWO).rounds(), NONE);
        due("no loan", new RefundDesk().rounds(), NONE);
        morePolicy();
    }

    private static void morePolicy() {
        promise = 42;
        RefundDesk desk = with("lp1000t1c0b50f12");
        due("as it is", desk.shifted(0), 952);
        due("one more", desk.shifted(1), 951);
        due("more", desk.shifted(99), 1000 * 1000 / 1149);
        due("0 at least", desk.shifted(-99), 1000);
        due("999 at most", with("lp1000t1c0b950f12").shifted(99), 500);
        due("out of bounds", desk.shifted(100), NONE);
        due("out of bounds", desk.shifted(-100), NONE);
        due("rates told, too", with("lp1000t1c0b950f12;xr0").shifted(50), 952);
        due("nothing is shifted", desk.costs(0, 0, 0), 952);
        due("ended", ended(TWO).shifted(0), NONE);
        due("no loan", new RefundDesk().shifted(0), NONE);

        promise = 43;
        desk = with("lp1000t3c100b100u60d60q30f1m0s0e0k0");
        // down in the first year: called for 1,000; else held: 300 and 1,000
        due("least", desk.spread(0), 1100);
        due("greatest", desk.spread(1), 1300);
        due("called", desk.spread(2), 4);
        due("unlike", desk.spread(3), 2);
        due("added up", desk.spread(4), 4 * 1100 + 4 * 1300);
        due("no what", desk.spread(5), NONE);
        due("no what", desk.spread(-1), NONE);
        desk.up();
        due("from here", desk.spread(4), 4 * 1200);
        due("ended", ended(TWO).spread(0), NONE);
        due("no loan", new RefundDesk().spread(0), NONE);
        due("all ways of twelve years", with("lp9999t12c999b999f12").spread(4), 4096 * (9999 + 12 * 9989));
    }

    /** At a rate of 98 calling is best by 1, at 99 it is not: all answers go by the rates as they are. */
    private static void onTheEdge() {
        RefundDesk desk = with(FREE + ";xr98");
        promise = 10;
        due("best", desk.best(0, 0), 1);
        promise = 26;
        due("mass", desk.mass(1, 0), 0);
        promise = 27;
        due("masses", desk.masses(0), 1000000000);
        promise = 31;
        due("edge", desk.edge(0), NONE);
        promise = 33;
        due("ending", desk.ending(0, 0), 1000000000);
        promise = 40;
        due("mended", take(desk, "py1h0a1;py1h1a1;py2h0a1;py2h1a1;py2h2a1", 2) * 10 + desk.mended(0, 0), 51);
        promise = 39;
        due("strays", desk.strays(0), 1);
        promise = 19;
        due("adopt", desk.adopt(), 1);
        promise = 39;
        due("strays", desk.strays(0), 0);
        promise = 18;
        due("doBest", desk.doBest(), 1);
        desk = with(FREE + ";xr99");
        promise = 10;
        due("best", desk.best(0, 0), 0);
        promise = 19;
        due("adopt", desk.adopt(), 5);
        promise = 39;
        due("strays", desk.strays(0), 0);
        promise = 18;
        due("doBest", desk.doBest(), NONE);
    }

    private static void scriptsAndImages() {
        promise = 44;
        RefundDesk desk = with("lp1000t4c100n1f0");
        take(desk, "u;i2,30;x3,1,41;w", 1);
        take(desk, "d;c;r;b;a;f", 1);
        int[][] steps = {{0, -1, -1, -1}, {5, 2, 30, -1}, {6, 3, 1, 41}, {4, -1, -1, -1}};
        for (int i = 0; i < 4; i++) {
            for (int what = 0; what < 4; what++) {
                due("step(0, " + i + ", " + what + ")", desk.step(0, i, what), steps[i][what]);
            }
        }
        int[] codes = {1, 2, 3, 7, 8, 9};
        for (int i = 0; i < 6; i++) {
            due("step(1, " + i + ", 0)", desk.step(1, i, 0), codes[i]);
        }
        for (int[] no : new int[][] {{2, 0, 0}, {-1, 0, 0}, {0, 4, 0}, {0, -1, 0}, {0, 0, 4}, {0, 0, -1}}) {
            due("no such step", desk.step(no[0], no[1], no[2]), HIDDEN);
        }

        promise = 45;
        due("the first that can't be", desk.run(0, 0), 3);
        due("paid", desk.run(0, 1), 100);
        due("nothing is done", desk.most(0) + desk.most(4) + desk.count(3) + desk.count(4), 0);
        due("nor refused", desk.status(2), 0);
        take(desk, "u;d;i3,400;u;u", 1);
        due("all can be", desk.run(2, 0), NONE);
        due("paid", desk.run(2, 1), 100 + 100 + 500 + 660);
        desk.up();
        due("paid ahead of it is in it", desk.run(0, 1), 200);
        for (int[] no : new int[][] {{3, 0}, {-1, 0}, {0, 2}, {0, -1}}) {
            due("no such", desk.run(no[0], no[1]), HIDDEN);
        }
        RefundDesk bare = new RefundDesk();
        take(bare, "u", 1);
        due("no loan", bare.run(0, 0), HIDDEN);

        promise = 46;
        desk = with("lp1000t4c100n1f0");
        take(desk, "u;i2,30;x3,1,41;w;u", 1);
        due("perform", desk.perform(0), 3);
        due("acts", desk.count(4), 3);
        due("no status", desk.status(2), 0);
        due("log", desk.log(0, 0), 6);
        due("all", take(desk, "d;c;d", 1) == 1 ? desk.perform(1) : -5, 3);
        due("ended", desk.perform(1), 0);
        due("undo", desk.undo(), 5);
        due("no script", desk.perform(2), NONE);
        due("no script", desk.perform(-1), NONE);
        due("no loan", bare.perform(0), NONE);
        standing();
    }

    private static void standing() {
        promise = 47;
        RefundDesk desk = with("lp1000t6c100b60u10d10m30s10f1n2k2g1e5;xy5h2r876;iy2a100");
        desk.up();
        desk.refund();
        due("notice of a refund", desk.most(8), 2);
        due("years", desk.most(9), 2);
        desk.down();
        due("years", desk.most(9), 1);
        desk.down();
        // 100, 200, 90; at year 3 no premium is left: the fee alone
        int[] want = {100 + 200 + 90 + 5, 290, 0, 5, 3, 1, 900, 0, 0, 0, 1, 876};
        for (int what = 0; what < 12; what++) {
            due("most(" + what + ")", desk.most(what), want[what]);
        }
        desk.call();
        due("notice of a call", desk.most(8), 1);
        desk.up();
        desk.up();
        due("ended", desk.most(7), 1);
        due("nothing is left", desk.most(6), 0);
        due("no notice", desk.most(8) + desk.most(9), 0);
        due("no what", desk.most(12), HIDDEN);
        due("no what", desk.most(-1), HIDDEN);
        due("no loan", new RefundDesk().most(7), HIDDEN);
        desk = with("lp1000t3c0m30s10f1");
        desk.up();
        desk.refund();
        due("premiums", desk.most(2), 20);

        promise = 48;
        desk = with("lp1000t6c100f0n1");
        due("image", desk.image(), 0);
        desk.up();
        desk.call();
        due("instead of the one ahead", desk.image(), 100);
        due("it is no act", desk.count(4) * 10 + desk.count(3), 22);
        due("no loan", new RefundDesk().image(), NONE);

        promise = 49;
        desk.withdraw();
        desk.up();
        desk.tell(3, 3, 1);
        desk.adopt();
        due("back", desk.back(), 100);
        due("year", desk.most(4), 1);
        due("notice", desk.most(8), 1);
        due("rate", rateOf(desk, 3, 3), 80);
        due("deeds", desk.deed(2, 2), 0);
        due("the log", desk.count(3) * 10 + desk.log(0, 0), 22);
        due("no act can be undone", desk.undo(), NONE);
        desk.up();
        due("one can be", desk.count(4), 1);
        due("undone", desk.undo(), 0);
        due("the image stays", desk.back(), 100);
        desk = with("lt12");
        for (int i = 0; i < 75; i++) {
            desk.tell(i % 12, 0, 100 + i);
        }
        desk.image();
        for (int i = 0; i < 75; i++) {
            desk.tell(i % 5, 0, 300 + i);
        }
        due("back", desk.back(), 0);
        due("the log is as long", desk.count(3), 60);
        for (int i = 0; i < 60; i++) {
            due("the log as it was", desk.log(i, 1), (74 - i) % 12);
        }
        for (int i = 0; i < 40; i++) {
            desk.tell(3, 0, 400 + i);
        }
        for (int i = 0; i < 40; i++) {
            desk.undo();
        }
        due("the log as it was", desk.log(0, 1) * 100 + desk.log(59, 1), 74 % 12 * 100 + 15 % 12);
        take(desk, "l", 0);
        due("of another loan", desk.back(), NONE);
        due("no loan", new RefundDesk().back(), NONE);

        promise = 50;
        desk = with("lt7");
        take(desk, "u", 1);
        feed(desk, "abc");
        desk.up();
        desk.up();
        desk.undo();
        int[] counts = {7, 1, 3, 1, 1};
        for (int what = 0; what < 5; what++) {
            due("count " + what, desk.count(what), counts[what]);
        }
        due("count(5)", desk.count(5), HIDDEN);
        due("count(-1)", desk.count(-1), HIDDEN);
    }
}
