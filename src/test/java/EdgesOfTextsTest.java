import java.util.function.Consumer;

/** The edges that promises 1 to 5 and 44 name, and ==== 1: the tape and its texts. */
public final class EdgesOfTextsTest {
    private static final String LOAN = "lp1000t3c100b50u10d10q40m20s5f0n1k2g3e5;iy1a100;xy2h1r77";
    private static final Consumer<RefundDesk> EMPTY = desk -> { };
    /** Three acts done, the fourth refused; a policy, an image, two scripts, nothing on the tape. */
    private static final Consumer<RefundDesk> BUSY = Bench.loan(LOAN, "ur").andThen(desk -> {
        Bench.take(desk, "py1h1a1;py2h2a2", 2);
        Bench.take(desk, "u;d", 1);
        Bench.take(desk, "c", 1);
        desk.image();
        desk.tell(2, 2, 44);
        desk.refund();
    });

    public static void main(String[] args) {
        newObject();
        feeding();
        ending();
        faultSorts();
        bounds();
        countsOfClauses();
        digits();
        letters();
        blanks();
        endsTooEarly();
        wholeTape();
        leftOut();
        lastHolds();
        textSorts();
        newLoan();
        policies();
        scripts();
        steps();
        Bench.finish();
    }

    private static String repeat(String part, int times) {
        StringBuilder out = new StringBuilder();
        for (int i = 0; i < times; i++) {
            out.append(i > 0 ? ";" : "").append(part);
        }
        return out.toString();
    }

    private static Consumer<RefundDesk> tape(String text) {
        return BUSY.andThen(desk -> Bench.feed(desk, text));
    }

    /** The text has no fault and is taken: the tape is empty then. */
    private static RefundDesk good(String text, int sort) {
        RefundDesk desk = Bench.made(tape(text));
        Bench.due("fault(" + sort + ") of '" + text + "'", desk.fault(sort), Bench.NONE);
        Bench.due("the tape stays behind fault()", desk.count(2), text.length());
        Bench.due("text(" + sort + ") of '" + text + "' is taken", desk.text(sort) >= 0, true);
        Bench.due("the tape behind '" + text + "'", desk.count(2), 0);
        return desk;
    }

    /** The text has this fault, is not taken, and all is as it was, the tape as well. */
    private static void bad(String text, int sort, int fault) {
        Bench.asked("fault(" + sort + ") of '" + text + "'", tape(text), desk -> desk.fault(sort), fault);
        Bench.refused("text(" + sort + ") of '" + text + "'", tape(text), desk -> desk.text(sort), Bench.NONE, Bench.UNCOUNTED);
    }

    private static void newObject() {
        Bench.promise(1);
        RefundDesk desk = new RefundDesk();
        for (int what = 0; what < 14; what++) {
            Bench.due("rule(" + what + ")", desk.rule(what), Bench.NONE);
        }
        for (int what = 0; what < 12; what++) {
            Bench.due("most(" + what + ")", desk.most(what), Bench.HIDDEN);
        }
        for (int what = 0; what < 5; what++) {
            Bench.due("count(" + what + ")", desk.count(what), 0);
            Bench.due("status(" + what + ")", desk.status(what), what < 4 ? 0 : Bench.NONE);
        }
        RefundDesk one = new RefundDesk();
        Bench.take(one, LOAN, 0);
        one.up();
        Bench.due("an object of its own", new RefundDesk().count(0), 0);
        Bench.due("another's loan", one.count(0), 3);
    }

    private static void feeding() {
        Bench.promise(2);
        int blanks = 0x20202020;
        Consumer<RefundDesk> nearlyFull = BUSY.andThen(desk -> {
            for (int i = 0; i < 15; i++) {
                desk.feed(blanks, blanks, blanks, blanks, blanks);
            }
        });
        RefundDesk desk = Bench.taken("twenty to 320", nearlyFull, x -> x.feed(blanks, blanks, blanks, blanks, blanks), 320);
        Bench.due("count(2)", desk.count(2), 320);
        Bench.due("none more", desk.feed(0, 0, 0, 0, 0), 320);
        desk = Bench.taken("nineteen", nearlyFull, x -> x.feed(0x00202020, blanks, blanks, blanks, blanks), 319);
        Bench.due("two more", desk.feed(0x20200000, 0, 0, 0, 0), Bench.NONE);
        Bench.due("nothing of them came", desk.count(2), 319);
        Bench.due("one more", desk.feed(0, 0, 0x00200000, 0, 0), 320);
        Consumer<RefundDesk> full = nearlyFull.andThen(x -> x.feed(blanks, blanks, blanks, blanks, blanks));
        Bench.refused("the 321st", full, x -> x.feed(0, 0, 0, 0, 1), Bench.NONE, Bench.UNCOUNTED);
        Bench.refused("twenty more", full, x -> x.feed(-1, -1, -1, -1, -1), Bench.NONE, Bench.UNCOUNTED);
        Bench.refused("301 and twenty", nearlyFull.andThen(x -> x.feed(32, 0, 0, 0, 0)),
            x -> x.feed(blanks, blanks, blanks, blanks, blanks), Bench.NONE, Bench.UNCOUNTED);
        Bench.due("full, then cut and fed again", Bench.made(full.andThen(x -> x.end(319))).feed(7, 0, 0, 0, 0), 320);
        bytes();
    }

    private static void bytes() {
        for (int place = 0; place < 20; place++) {
            int[] five = new int[5];
            five[place / 4] = 'l' << (24 - 8 * (place % 4));
            RefundDesk desk = new RefundDesk();
            Bench.due("one byte at " + place, desk.feed(five[0], five[1], five[2], five[3], five[4]), 1);
            Bench.due("it is the l", desk.fault(0), Bench.NONE);
        }
        RefundDesk desk = new RefundDesk();
        Bench.due("the highest first", desk.feed(0x6c703132, 0x33347431, 0, 0, 0x00320063), 10);
        Bench.due("one more number", desk.feed(0x00000037, 0, 0, 0, 0), 11);
        Bench.due("it is taken", desk.text(0), 12);
        Bench.due("1234", desk.rule(0), 1234);
        Bench.due("7", desk.rule(2), 7);
        for (int one = 1; one < 256; one++) {
            desk = new RefundDesk();
            desk.feed(one << 24, 0, 0, 0, 0);
            boolean good = one == 'l' || one == 'i' || one == 'x';
            Bench.due("byte " + one, desk.count(2), 1);
            Bench.due("as a loan", desk.fault(0), good ? Bench.NONE : one == ' ' ? 1 : 0);
            boolean step = "udcrwbaf".indexOf(one) >= 0;
            Bench.due("as a script", desk.fault(1), step ? Bench.NONE : one == ' ' || one == 'i' || one == 'x' ? 1 : 0);
            Bench.due("as a policy", desk.fault(2), one == 'p' ? Bench.NONE : one == ' ' ? 1 : 0);
        }
    }

    private static void ending() {
        Bench.promise(3);
        Consumer<RefundDesk> some = tape("lt4c7;q");
        for (int n = 0; n <= 7; n++) {
            int length = n;
            RefundDesk desk = Bench.taken("end(" + n + ")", some, x -> x.end(length) ? 1 : 0, 1);
            Bench.due("count(2)", desk.count(2), n);
        }
        for (int n : new int[] {8, 320, 321, -1, Integer.MIN_VALUE, Integer.MAX_VALUE}) {
            Bench.refused("end(" + n + ")", some, x -> x.end(n) ? 1 : 0, 0, Bench.UNCOUNTED);
        }
        RefundDesk desk = Bench.made(some);
        desk.end(5);
        Bench.due("no longer one comes back", desk.end(6), false);
        Bench.due("count(2)", desk.count(2), 5);
        Bench.due("what is fed comes behind", desk.feed('8' << 24, 0, 0, 0, 0), 6);
        Bench.due("what is left is a loan", desk.text(0), 4);
        Bench.due("with the coupon", desk.rule(2), 78);
        Bench.due("an empty tape", desk.end(1), false);
        Bench.due("an empty tape", desk.end(0), true);
        Bench.due("of a new object", new RefundDesk().end(0), true);
        Bench.due("of a new object", new RefundDesk().end(1), false);
    }

    private static void faultSorts() {
        Bench.promise(4);
        Consumer<RefundDesk> some = tape("l");
        int[] want = {Bench.NONE, 0, 0};
        for (int sort = 0; sort < 3; sort++) {
            int one = sort;
            Bench.asked("fault(" + sort + ")", some, x -> x.fault(one), want[sort]);
        }
        for (int sort : new int[] {-1, 3, -2, Integer.MIN_VALUE, Integer.MAX_VALUE}) {
            Bench.asked("fault(" + sort + ")", some, x -> x.fault(sort), -2);
            Bench.due("fault(" + sort + ") without a loan", new RefundDesk().fault(sort), -2);
        }
        Bench.due("a policy's, without a loan", Bench.made(desk -> Bench.feed(desk, "pa2")).fault(2), Bench.NONE);
    }

    /** Of each letter: clause, letter, least, greatest number. */
    private static void bounds() {
        Object[][] items = {{"l", 'p', 1, 9999}, {"l", 't', 1, 12}, {"l", 'c', 0, 999}, {"l", 'b', 0, 999}, {"l", 'u', 0, 99},
            {"l", 'd', 0, 99}, {"l", 'q', 0, 100}, {"l", 'm', 0, 999}, {"l", 's', 0, 99}, {"l", 'f', 0, 12}, {"l", 'n', 0, 2},
            {"l", 'k', 0, 2}, {"l", 'g', 0, 99}, {"l", 'e', 0, 999}, {"i", 'y', 1, 12}, {"i", 'a', 0, 9999}, {"x", 'y', 0, 11},
            {"x", 'h', 0, 11}, {"x", 'r', 0, 999}, {"p", 'y', 0, 11}, {"p", 'h', 0, 11}, {"p", 'a', 0, 2}};
        for (int what = 0; what < items.length; what++) {
            String head = items[what][0] + "" + items[what][1];
            int sort = items[what][0].equals("p") ? 2 : 0;
            int least = (Integer) items[what][2];
            int greatest = (Integer) items[what][3];
            for (int number : new int[] {least, greatest, least + 1, greatest - 1}) {
                RefundDesk desk = good(head + number, sort);
                RefundDesk long4 = good(head + String.format("%04d", number), sort);
                if (what < 14) {
                    Bench.due(head + number, desk.rule(what), number);
                    Bench.due(head + " of four digits", long4.rule(what), number);
                }
            }
            if (least > 0) {
                bad(head + "0", sort, head.length());
                bad(head + "0000", sort, head.length() + 3);
                bad(head + "0;zz", sort, head.length());
            }
            String more = "" + (greatest + 1);
            bad(head + more, sort, head.length() + more.length() - 1);
            if (greatest < 9999) {
                bad(head + more + " ;", sort, head.length() + more.length() - 1);
                bad(head + "9999", sort, head.length() + 3);
                bad(head + String.format("%04d", greatest + 1), sort, head.length() + 3);
            }
        }
        int[] plain = {1000, 5, 50, 50, 10, 10, 50, 20, 5, 1, 0, 1, 0, 5};
        RefundDesk desk = good("l", 0);
        for (int what = 0; what < 14; what++) {
            Bench.due("without: rule(" + what + ")", desk.rule(what), plain[what]);
            Bench.due("without an l", good("x", 0).rule(what), plain[what]);
        }
    }

    private static void countsOfClauses() {
        good(repeat("i", 12), 0);
        bad(repeat("i", 13), 0, 24);
        good(repeat("x", 16), 0);
        bad(repeat("x", 17), 0, 32);
        good("l", 0);
        bad("l;l", 0, 2);
        bad("lp5;i;l", 0, 6);
        String most = repeat("i", 12) + ";l;" + repeat("x", 16);
        RefundDesk desk = good(most, 0);
        Bench.due("its rate", Bench.rateOf(desk, 0, 0), 0);
        desk = good("iy1a30;" + repeat("iy2", 10) + ";iy3a50;xy1r5;" + repeat("xy1h1r8", 14) + ";lt4;xy3h3r7", 0);
        Bench.due("the first i, the last one", desk.year(1, 0) * 100 + desk.year(3, 0), 3050);
        Bench.due("the first x, the last one", Bench.rateOf(desk, 1, 0) * 10 + Bench.rateOf(desk, 3, 3), 57);
        bad(most + ";l", 0, most.length() + 1);
        bad(most + ";i", 0, most.length() + 1);
        bad(most + ";x", 0, most.length() + 1);
        bad(most + ";", 0, most.length() + 1);
        good(repeat("x", 16) + ";" + repeat("i", 12), 0);
        good("p", 2);
        bad("", 2, 0);
        good(repeat("p", 24), 2);
        bad(repeat("p", 25), 2, 48);
        bad(repeat("p", 24) + ";", 2, 48);
        bad(repeat("py1h1a1", 24) + ";  p", 2, 24 * 8 + 2);
        bad("", 1, 0);
        bad("", 0, 0);
    }

    private static void digits() {
        bad("lp12345", 0, 6);
        bad("lp123456", 0, 6);
        bad("lt99999", 0, 6);
        bad("lt00001", 0, 6);
        bad("lp00000", 0, 6);
        bad("iy00001", 0, 6);
        bad("xr99990", 0, 6);
        bad("pa00000", 2, 6);
        bad("pa99999", 2, 6);
        bad("pa9999", 2, 5);
        bad("lt 13 ", 0, 4);
        bad("lp", 0, 2);
        bad("lp ", 0, 3);
        bad("lpt1", 0, 2);
        bad("lp;", 0, 2);
        bad("lp-1", 0, 2);
        bad("lp1.", 0, 3);
        good("lp9999", 0);
        good("lp0009", 0);
    }

    private static void letters() {
        bad("lp1p1", 0, 3);
        bad("lp1t2p", 0, 5);
        bad("iy1y1", 0, 3);
        bad("ia1y1a1", 0, 5);
        bad("xr1h0r2", 0, 5);
        bad("pa1a1", 2, 3);
        good("iy1;iy1", 0);
        good("xy1h1r1;xy1h1r1", 0);
        good("pa1;pa1", 2);
        good("le1g2k0n1f3s4m5q6d7u8b9c1t2p3", 0);
        String[] inside = {"ptcbudqmsfnkge", "ya", "yhr"};
        String[] heads = {"l", "i", "x"};
        for (int kind = 0; kind < 3; kind++) {
            for (int sign = 1; sign < 256; sign++) {
                boolean known = inside[kind].indexOf(sign) >= 0 || sign == ';' || sign == ' ';
                RefundDesk desk = Bench.made(tapeAlone(heads[kind] + (char) sign));
                Bench.due(heads[kind] + " and byte " + sign, desk.fault(0), sign == ' ' ? Bench.NONE : known ? 2 : 1);
            }
        }
        for (int sign = 1; sign < 256; sign++) {
            boolean known = "yha; ".indexOf(sign) >= 0;
            RefundDesk desk = Bench.made(tapeAlone("p" + (char) sign));
            Bench.due("p and byte " + sign, desk.fault(2), sign == ' ' ? Bench.NONE : known ? 2 : 1);
        }
    }

    private static Consumer<RefundDesk> tapeAlone(String text) {
        return desk -> Bench.feed(desk, text);
    }

    /** A blank at each place: between signs it changes nothing, within a number the digit behind it is wrong. */
    private static void blanks() {
        String[] texts = {"lp1234t12c111;iy11a2345;xy11h11r777;ia7", "u;i1234,5678;x11,22,33;w;d", "py11h11a2;p;pa1h2"};
        for (int sort = 0; sort < 3; sort++) {
            String text = texts[sort];
            for (int at = 0; at <= text.length(); at++) {
                boolean within = at > 0 && at < text.length() && Character.isDigit(text.charAt(at - 1)) && Character.isDigit(text.charAt(at));
                RefundDesk desk = Bench.made(tapeAlone(text.substring(0, at) + " " + text.substring(at)));
                Bench.due("a blank at " + at + " of " + text, desk.fault(sort), within ? at + 1 : Bench.NONE);
                desk = Bench.made(tapeAlone(text.substring(0, at) + "   " + text.substring(at)));
                Bench.due("three blanks at " + at + " of " + text, desk.fault(sort), within ? at + 3 : Bench.NONE);
                desk = Bench.made(tapeAlone(text.substring(0, at) + "\t" + text.substring(at)));
                Bench.due("a tab at " + at + " of " + text, desk.fault(sort), at);
            }
        }
        RefundDesk desk = good("  l  p  12  t  3  ;  i  y  1  a  5  ", 0);
        Bench.due("PRINCIPAL", desk.rule(0), 12);
        Bench.due("INSTALMENT", desk.year(1, 0), 5);
    }

    /** Each text that is cut where it can't end: the fault is its length. */
    private static void endsTooEarly() {
        String[] texts = {"lp1234t12;iy11a2;x;l".substring(0, 18), "u;i12,56;x1,2,3;w", "py11h1a2;p"};
        for (int sort = 0; sort < 3; sort++) {
            for (int n = 0; n <= texts[sort].length(); n++) {
                String text = texts[sort].substring(0, n);
                RefundDesk desk = Bench.made(tapeAlone(texts[sort]));
                desk.end(n);
                Bench.due("fault(" + sort + ") of '" + text + "'", desk.fault(sort), canEnd(text, sort) ? Bench.NONE : n);
            }
        }
    }

    private static boolean canEnd(String text, int sort) {
        if (text.isEmpty() || text.endsWith(";") || text.endsWith(",")) {
            return false;
        }
        String last = text.substring(text.lastIndexOf(';') + 1);
        boolean digit = Character.isDigit(last.charAt(last.length() - 1));
        if (sort != 1) {
            return digit || last.length() == 1;
        }
        int commas = last.length() - last.replace(",", "").length();
        return last.charAt(0) == 'i' ? digit && commas == 1 : last.charAt(0) == 'x' ? digit && commas == 2 : true;
    }

    private static void wholeTape() {
        String blanks = " ".repeat(320);
        bad(blanks, 0, 320);
        bad(blanks, 1, 320);
        bad(blanks, 2, 320);
        good(("lt12" + blanks).substring(0, 320), 0);
        RefundDesk desk = good(blanks.substring(4) + "lt12", 0);
        Bench.due("YEARS", desk.count(0), 12);
        bad(blanks.substring(2) + "l;", 0, 320);
        bad(blanks.substring(2) + "lz", 0, 319);
        bad(blanks.substring(3) + "lt0", 0, 319);
        good(blanks.substring(1) + "p", 2);
        good(blanks.substring(1) + "u", 1);
        bad(blanks.substring(1) + "i", 1, 320);
        StringBuilder steps = new StringBuilder(repeat("x9999,9999,9999", 16));
        bad(steps + ";u", 1, steps.length());
        good(steps + " ".repeat(320 - steps.length()), 1);
    }

    /** What a loan, a policy tells of no YEAR, no NODE is left out; the last one that is there is not. */
    private static void leftOut() {
        Bench.promise(5);
        for (int years = 1; years <= 12; years++) {
            String loan = "lp1000b0u0d0t" + years;
            for (int year = 1; year <= 12; year++) {
                RefundDesk desk = good(loan + ";iy" + year + "a300", 0);
                for (int t = 1; t <= years; t++) {
                    int told = year < years && t == year ? 300 : 0;
                    int want = t < years ? told : 1000 - (year < years ? 300 : 0);
                    Bench.due(loan + ", i of " + year + ": year(" + t + ", 0)", desk.year(t, 0), want);
                }
            }
            for (int[] node : new int[][] {{years - 1, years - 1}, {years - 1, 0}, {0, 0}, {years - 1, years}, {years, 0}, {0, 1}, {11, 11}}) {
                if (node[0] > 11 || node[1] > 11) {
                    continue;
                }
                boolean there = node[0] < years && node[1] <= node[0];
                RefundDesk desk = good("xy" + node[0] + "h" + node[1] + "r999;" + loan, 0);
                Bench.due(loan + ", x of " + node[0] + ", " + node[1] + ": most(11)", desk.most(11), there ? 999 : 0);
                Bench.due("its rate", Bench.rateOf(desk, node[0], node[1]), there ? 999 : Bench.THROWN);
                Bench.due("policy of it", Bench.take(desk, "py" + node[0] + "h" + node[1] + "a2", 2), there ? 1 : 0);
                Bench.due("its deed", desk.deed(node[0], node[1]), there ? 2 : Bench.NONE);
            }
        }
    }

    private static void lastHolds() {
        RefundDesk desk = good("iy1a300;iy1a400;xy1h1r5;xy1h1r6;lt3;iy1a500;xy1h1r7", 0);
        Bench.due("the last i", desk.year(1, 0), 500);
        Bench.due("the last x", Bench.rateOf(desk, 1, 1), 7);
        Bench.due("the last p", Bench.take(desk, "py1h1a2;py1h1a1;py0a1;p", 2), 1);
        Bench.due("its deed", desk.deed(1, 1), 1);
        Bench.due("a deed of 0", desk.deed(0, 0), 0);
        desk = good("iy1a300;iy1;xy1h1r5;xy1h1;lt3b9", 0);
        Bench.due("an i of 0 holds, too", desk.year(1, 0), 0);
        Bench.due("an x of 0 holds, too", Bench.rateOf(desk, 1, 1), 0);
        desk = good("lt3;ia250;xr8;xy1r9;xh1y1", 0);
        Bench.due("an i without a YEAR: 1", desk.year(1, 0), 250);
        Bench.due("an x without YEAR and HEIGHT: (0, 0)", Bench.rateOf(desk, 0, 0), 8);
        Bench.due("an x without HEIGHT: 0", Bench.rateOf(desk, 1, 0), 9);
        Bench.due("an x without a RATE: 0", Bench.rateOf(desk, 1, 1), 0);
        Bench.due("a p without YEAR and HEIGHT, without HEIGHT, without a DEED", Bench.take(desk, "py1h1a2;pa1;py1a2;ph1y1", 2), 2);
        Bench.due("(0, 0), (1, 0), (1, 1)", desk.deed(0, 0) * 100 + desk.deed(1, 0) * 10 + desk.deed(1, 1), 120);
        desk = good("iy1a300;iy3a1;lt3", 0);
        Bench.due("one that is left out changes nothing", desk.year(1, 0), 300);
        // an i is no x, though its numbers could be those of a NODE; nor is an x an i
        desk = good("lp1000t3b50u10d20;iy1;iy1a1;iy2a0;iy2a1;iy2a2;xy1h0r7", 0);
        Bench.due("RATES of (1, 1), (2, 0), (2, 1), (2, 2)", Bench.rateOf(desk, 1, 1) * 1000000 + Bench.rateOf(desk, 2, 0) * 10000
            + Bench.rateOf(desk, 2, 1) * 100 + Bench.rateOf(desk, 2, 2), 60000000 + 100000 + 4000 + 70);
        Bench.due("INSTALMENTS", desk.year(1, 0) * 10 + desk.year(2, 0), 12);
    }

    private static void textSorts() {
        for (int sort : new int[] {-1, 3, Integer.MIN_VALUE, Integer.MAX_VALUE}) {
            Bench.refused("text(" + sort + ")", tape("l"), desk -> desk.text(sort), Bench.NONE, Bench.UNCOUNTED);
            Bench.refused("text(" + sort + ")", tape(""), desk -> desk.text(sort), Bench.NONE, Bench.UNCOUNTED);
        }
        Bench.refused("a policy without a loan", tapeAlone("p"), desk -> desk.text(2), Bench.NONE, Bench.UNCOUNTED);
        RefundDesk desk = Bench.taken("a script without a loan", tapeAlone("u"), x -> x.text(1), 0);
        Bench.due("it is there", desk.step(0, 0, 0), 0);
        Bench.due("no loan yet", desk.count(0), 0);
        desk = Bench.taken("a loan behind a policy that was refused", tapeAlone("l").andThen(x -> x.text(2)), x -> x.text(0), 5);
        Bench.due("no deeds", desk.deed(0, 0), 0);
        Bench.refused("a loan's text as a script", tape("l"), x -> x.text(1), Bench.NONE, Bench.UNCOUNTED);
        Bench.refused("a loan's text as a policy", tape("l"), x -> x.text(2), Bench.NONE, Bench.UNCOUNTED);
        Bench.refused("a script's text as a loan", tape("u"), x -> x.text(0), Bench.NONE, Bench.UNCOUNTED);
    }

    /** A loan told behind another: as on a new object, but for the scripts and STATUS. */
    private static void newLoan() {
        Consumer<RefundDesk> refusals = BUSY.andThen(desk -> {
            desk.refund();
            desk.instal(2, -1);
            desk.tell(0, 0, 1);
            desk.tell(2, 2, 1000);
            desk.up();
            desk.call();
        });
        for (String text : new String[] {"lt2", LOAN, "lt5n2k2", "i"}) {
            RefundDesk desk = Bench.made(refusals);
            // what was reckoned of the other loan is gone as well
            Bench.picture(desk);
            int[] status = {desk.status(0), desk.status(1), desk.status(2), desk.status(3)};
            int years = Bench.take(desk, text, 0);
            RefundDesk plain = Bench.with(text);
            Bench.take(plain, "u;d", 1);
            Bench.take(plain, "c", 1);
            Bench.due("YEARS", years, plain.count(0));
            Bench.same("a loan told anew", Bench.picture(desk), Bench.picture(plain));
            for (int what = 0; what < 4; what++) {
                Bench.due("status(" + what + ") stays", desk.status(what), status[what]);
            }
            Bench.due("no image of this loan", desk.back(), Bench.NONE);
            Bench.due("no act of this loan", desk.undo(), Bench.NONE);
            Bench.due("nothing is another", desk.most(0) + desk.most(4), 0);
        }
        Bench.due("status of the refused ones", Bench.made(refusals).status(1), 2);
        shorterLoans();
    }

    /** Of a longer loan, called at each node, nothing stays where a shorter one that is never called ends. */
    private static void shorterLoans() {
        String[] longer = {"lp1000t5c100b0u0d0m0s0f0n0k0", "lp1000t5c200b10u9d1q90m0s0f0n0k2e0", "lp1000t5c200b0u0d0m0s0f0n1k0"};
        for (String first : longer) {
            for (int years = 1; years < 5; years++) {
                String text = "lp1000c100b0u0d0f12k0t" + years;
                RefundDesk desk = Bench.with(first);
                Bench.take(desk, "pa1;py1a2;py2h1a1;py3h2a2", 2);
                long[] asked = {desk.masses(0), desk.strays(0), desk.edge(4), desk.byPolicy(0, 0), desk.ending(2, 0), desk.spread(2)};
                Bench.due("the longer one is called or refunded", asked[0] + desk.masses(1), 1000000000);
                Bench.take(desk, text, 0);
                RefundDesk plain = Bench.with(text);
                for (int what = 0; what < 3; what++) {
                    Bench.due(text + " behind " + first + ": masses(" + what + ")", desk.masses(what), what < 2 ? 0 : 1000000000);
                    Bench.due(text + " behind " + first + ": strays(" + what + ")", desk.strays(what), what < 1 ? 0 : Bench.NONE);
                }
                Bench.due("none to adopt", desk.adopt(), Bench.NONE);
                plain.adopt();
                Bench.same(text + " behind " + first, Bench.picture(desk), Bench.picture(plain));
            }
        }
    }

    private static void policies() {
        Consumer<RefundDesk> told = tape("py2h1a1;p y2 h2 a2;pa1");
        RefundDesk desk = Bench.taken("a policy", told, x -> x.text(2), 3);
        Bench.due("what was told ahead is gone", desk.deed(1, 1), 0);
        Bench.due("no act", desk.count(4) * 10 + desk.count(3), 33);
        desk.undo();
        Bench.due("it goes with what is undone", desk.deed(2, 1) + desk.deed(0, 0), 0);
        Bench.due("what was the policy then", desk.deed(1, 1) * 10 + desk.deed(2, 2), 12);
        desk = Bench.made(told);
        desk.text(2);
        desk.back();
        Bench.due("brought back", desk.deed(1, 1) * 10 + desk.deed(2, 2), 12);
        policiesBetweenActs();
        Consumer<RefundDesk> ended = Bench.loan("lt1", "u").andThen(tapeAlone("pa2"));
        Bench.due("of a loan that has ended", Bench.taken("it is taken", ended, x -> x.text(2), 1).deed(0, 0), 2);
        Bench.due("none at all", Bench.take(Bench.with("lt3"), "p", 2), 0);
    }

    /** Each act that is undone brings the policy back that was there ahead of it, told or adopted. */
    private static void policiesBetweenActs() {
        RefundDesk desk = Bench.with("lp1000t3c200b10u1d1q50m0s0f0n0k0g0e0");
        Bench.take(desk, "pa2", 2);
        desk.tell(2, 0, 500);
        Bench.take(desk, "py1h1a2", 2);
        Bench.take(desk, "py1a2", 2);
        desk.instal(1, 5);
        Bench.take(desk, "py2h2a2", 2);
        Bench.due("the last one", desk.deed(0, 0) * 1000 + desk.deed(1, 0) * 100 + desk.deed(1, 1) * 10 + desk.deed(2, 2), 2);
        Bench.due("refused: it stays", desk.instal(1, 5), Bench.NONE);
        Bench.due("the last one", desk.deed(2, 2), 2);
        Bench.due("undo()", desk.undo(), 1);
        Bench.due("the latest ahead of the second act", desk.deed(0, 0) * 1000 + desk.deed(1, 0) * 100 + desk.deed(1, 1) * 10 + desk.deed(2, 2), 200);
        Bench.due("adopt()", desk.adopt() > 0, true);
        Bench.take(desk, "p", 2);
        Bench.due("nothing is told", desk.deed(0, 0) + desk.deed(1, 0) + desk.deed(1, 1), 0);
        Bench.due("undo() of ADOPTED", desk.undo(), 1);
        Bench.due("as it was ahead of it", desk.deed(0, 0) * 100 + desk.deed(1, 0) * 10 + desk.deed(1, 1), 20);
        Bench.due("undo()", desk.undo(), 0);
        Bench.due("ahead of the first act", desk.deed(0, 0) * 100 + desk.deed(1, 0) * 10 + desk.deed(1, 1), 200);
        Bench.due("no act is left", desk.undo(), Bench.NONE);
        Bench.due("what was told ahead of all acts stays", desk.deed(0, 0), 2);
    }

    private static void scripts() {
        RefundDesk desk = Bench.with(LOAN);
        for (int i = 0; i < 4; i++) {
            Bench.due("script " + i, Bench.take(desk, i % 2 == 0 ? "u" : "d;d", 1), i);
            Bench.due("count(1)", desk.count(1), i + 1);
        }
        Consumer<RefundDesk> four = BUSY.andThen(x -> {
            Bench.take(x, "w", 1);
            Bench.take(x, "f", 1);
            Bench.feed(x, "u");
        });
        Bench.refused("a fifth", four, x -> x.text(1), Bench.NONE, Bench.UNCOUNTED);
        Bench.asked("it has no fault", four, x -> x.fault(1), Bench.NONE);
        Bench.refused("a fifth with a fault", four.andThen(x -> Bench.feed(x, "z")), x -> x.text(1), Bench.NONE, Bench.UNCOUNTED);
        Bench.asked("its fault", four.andThen(x -> Bench.feed(x, "z")), x -> x.fault(1), 1);
        RefundDesk full = Bench.made(four);
        full.undo();
        full.back();
        Bench.due("neither undone nor brought back", full.count(1), 4);
        Bench.due("a loan can be told still", Bench.take(full, "l", 0), 5);
        Bench.due("and a policy", Bench.take(full, "pa1", 2), 1);
        Bench.due("a fifth still not", Bench.take(full, "u", 1), Bench.NONE);
        String sixteen = repeat("u", 16);
        good(sixteen, 1);
        good(sixteen + "  ", 1);
        bad(sixteen + ";", 1, 31);
        bad(sixteen + ";u", 1, 31);
        bad(sixteen + "  ;u", 1, 33);
        bad(repeat("u", 15) + ";", 1, 30);
        bad(repeat("x0,0,0", 16) + ";z", 1, 16 * 7 - 1);
        good("i9999,9999;x0000,9999,0", 1);
        bad("i10000,1", 1, 5);
        bad("i1,10000", 1, 7);
        bad("x1,2,00000", 1, 9);
        bad("i1", 1, 2);
        bad("i1,2,3", 1, 4);
        bad("x1,2", 1, 4);
        bad("x1,2,3,4", 1, 6);
        bad("u1", 1, 1);
        bad("u,", 1, 1);
        bad("U", 1, 0);
    }

    private static void steps() {
        Bench.promise(44);
        Consumer<RefundDesk> two = Bench.loan(LOAN).andThen(desk -> {
            Bench.take(desk, "u;d;c;r;w;i1,20;x3,4,5;b;a;f;u;u;u;u;u;i9999,0", 1);
            Bench.take(desk, "x0,9999,1", 1);
        });
        int[] codes = {0, 1, 2, 3, 4, 5, 6, 7, 8, 9, 0, 0, 0, 0, 0, 5};
        for (int i = 0; i < 16; i++) {
            int at = i;
            Bench.asked("step(0, " + i + ", 0)", two, desk -> desk.step(0, at, 0), codes[i]);
        }
        int[][] rows = {{0, 5, 5, 1, 20, -1}, {0, 6, 6, 3, 4, 5}, {0, 0, 0, -1, -1, -1}, {0, 15, 5, 9999, 0, -1}, {1, 0, 6, 0, 9999, 1}};
        for (int[] row : rows) {
            for (int what = 0; what < 4; what++) {
                Bench.due("step(" + row[0] + ", " + row[1] + ", " + what + ")", Bench.made(two).step(row[0], row[1], what), row[2 + what]);
            }
        }
        int[][] no = {{2, 0, 0}, {-1, 0, 0}, {4, 0, 0}, {0, 16, 0}, {0, -1, 0}, {1, 1, 0}, {0, 0, 4}, {0, 0, -1}, {0, 6, 4},
            {Integer.MAX_VALUE, 0, 0}, {0, Integer.MAX_VALUE, 0}, {0, 0, Integer.MAX_VALUE}, {Integer.MIN_VALUE, 0, 0}};
        for (int[] one : no) {
            Bench.asked("step(" + one[0] + ", " + one[1] + ", " + one[2] + ")", two, desk -> desk.step(one[0], one[1], one[2]), Bench.HIDDEN);
        }
        Bench.due("no script", new RefundDesk().step(0, 0, 0), Bench.HIDDEN);
        Bench.due("empty", Bench.made(EMPTY).count(1), 0);
        RefundDesk desk = Bench.made(two);
        desk.undo();
        Bench.take(desk, "lt2", 0);
        Bench.due("scripts stay with another loan", desk.step(1, 0, 2), 9999);
    }
}
