import java.util.Random;

/**
 * Promises 30 and 32, and ways with several refunds: what is searched for is held against trying every rate,
 * every coupon; loans whose rates rise behind a node, so that refunding is best there more than once.
 */
public final class SearchTest {
    private static int wrong;
    private static int tills;
    private static int fairs;
    private static int twice;

    public static void main(String[] args) {
        Random random = new Random(30);
        for (int i = 0; i < 500 && wrong < 20; i++) {
            String rules = rules(random);
            int coupon = random.nextInt(3) == 0 ? random.nextInt(1000) : random.nextInt(250);
            String more = ";xy1h0r" + random.nextInt(60) + ";xy2h0r" + random.nextInt(40) + ";iy1a" + random.nextInt(300);
            till(random, "l" + rules + "c" + coupon + more);
            if (i % 4 == 0) {
                fair(rules, coupon, more);
            }
            ways("l" + rules + "c" + coupon + more);
        }
        for (int i = 0; i < 250 && wrong < 20; i++) {
            till(random, small(random));
        }
        System.out.println(tills + " tills, " + fairs + " fairs, " + twice + " ways with two refunds, " + wrong + " wrong");
        if (wrong != 0 || tills < 100 || fairs < 20 || twice < 20) {
            System.exit(1);
        }
    }

    private static void due(String call, long got, long want) {
        if (got != want) {
            wrong++;
            System.out.println(call + " answered " + got + ", due is " + want);
        }
    }

    private static String rules(Random random) {
        int principal = random.nextInt(3) == 0 ? 1 + random.nextInt(60) : 200 + random.nextInt(9000);
        return "p" + principal + "t" + (1 + random.nextInt(6)) + "b" + random.nextInt(120) + "u" + random.nextInt(60) + "d" + random.nextInt(60)
            + "q" + (40 + random.nextInt(61)) + "m" + (random.nextInt(2) == 0 ? 0 : random.nextInt(20)) + "s" + random.nextInt(4)
            + "f" + random.nextInt(2) + "n" + random.nextInt(3) + "k" + random.nextInt(3) + "g" + random.nextInt(3)
            + "e" + (random.nextInt(2) == 0 ? 0 : random.nextInt(10));
    }

    private static RefundDesk with(String text) {
        RefundDesk desk = new RefundDesk();
        for (int i = 0; i < text.length(); i++) {
            desk.feed(0, 0, 0, 0, text.charAt(i));
        }
        if (desk.text(0) < 1) {
            wrong++;
            System.out.println("no loan: " + text);
        }
        return desk;
    }

    private static RefundDesk with(String text, String acts) {
        RefundDesk desk = with(text);
        for (int i = 0; i < acts.length(); i++) {
            int paid = acts.charAt(i) == 'u' ? desk.up() : desk.down();
        }
        return desk;
    }

    private static String someYears(Random random, int most) {
        StringBuilder acts = new StringBuilder();
        for (int i = random.nextInt(3); i > 0 && acts.length() < most; i--) {
            acts.append(random.nextBoolean() ? 'u' : 'd');
        }
        return acts.toString();
    }

    /** A new object for each hundred rates: none is used for more than 512 calls. */
    private static void till(Random random, String loan) {
        String acts = someYears(random, with(loan).count(0) - 1);
        int year = acts.length();
        int height = acts.replace("d", "").length();
        int got = with(loan, acts).till();
        int found = -1;
        for (int from = 900; from >= 0 && found < 0; from -= 100) {
            RefundDesk desk = with(loan, acts);
            for (int rate = from + 99; rate >= from && found < 0; rate--) {
                desk.tell(year, height, rate);
                found = desk.best(year, height) != 0 ? rate : -1;
            }
        }
        due("till() of " + loan + " at " + year + ", " + height, got, found);
        tills += found > 0 ? 1 : 0;
    }

    /** So small a principal that by the cuts a refund is best at a rate, not at a lower one, again at one below that. */
    private static String small(Random random) {
        int years = 2 + random.nextInt(4);
        StringBuilder loan = new StringBuilder("lp" + (1 + random.nextInt(random.nextBoolean() ? 60 : 900)) + "t" + years);
        loan.append("c" + random.nextInt(500) + "b" + random.nextInt(100) + "u" + random.nextInt(100) + "d" + random.nextInt(40));
        loan.append("q" + random.nextInt(101) + "m" + (random.nextBoolean() ? 0 : random.nextInt(20)) + "s0f0n0k" + (1 + random.nextInt(2)));
        loan.append("g" + random.nextInt(3) + "e" + random.nextInt(3));
        for (int i = random.nextInt(3); i > 0; i--) {
            int year = 1 + random.nextInt(years - 1);
            loan.append(";xy" + year + "h" + random.nextInt(year + 1) + "r" + random.nextInt(1000));
        }
        return loan.toString();
    }

    private static void fair(String rules, int coupon, String more) {
        int got = with("l" + rules + "c" + coupon + more).fair();
        int found = -1;
        for (int c = 999; c >= 0 && found < 0; c--) {
            RefundDesk desk = with("l" + rules + "c" + c + more);
            found = desk.costs(0, 0, 0) <= desk.rule(0) ? c : -1;
        }
        due("fair() of l" + rules + more, got, found);
        fairs += found < 999 ? 1 : 0;
    }

    /** By the acts themselves: the best is done at each node, again while it can be, till the loan has ended. */
    private static void ways(String loan) {
        String acts = with(loan).count(0) > 1 && loan.length() % 2 == 0 ? "u" : "";
        int rows = 1 << (with(loan).count(0) - acts.length());
        long total = 0;
        int called = 0;
        for (int moves = 0; moves < rows; moves++) {
            RefundDesk desk = with(loan, acts);
            int ahead = desk.most(0);
            int[] got = {desk.way(moves, 0), desk.way(moves, 1), desk.way(moves, 2)};
            called += goesToACall(desk, moves) ? 1 : 0;
            int[] want = {desk.most(0) - ahead, desk.most(10), desk.most(4)};
            for (int what = 0; what < 3; what++) {
                due("way(" + moves + ", " + what + ") of " + loan, got[what], want[what]);
            }
            twice += want[1] == 2 ? 1 : 0;
            total += want[0];
        }
        due("spread(4) of " + loan, with(loan, acts).spread(4), total);
        due("spread(2) of " + loan, with(loan, acts).spread(2), called);
    }

    private static boolean goesToACall(RefundDesk desk, int moves) {
        boolean byCall = false;
        for (int i = 0; i < 12 && desk.most(7) == 0; i++) {
            for (int again = 0; again < 3 && desk.most(7) == 0 && desk.most(8) == 0; again++) {
                int done = desk.doBest();
                byCall = done == 1 || done != 2 && byCall && desk.most(8) != 0;
            }
            if (desk.most(7) == 0) {
                int paid = (moves >> i & 1) == 1 ? desk.up() : desk.down();
            }
        }
        return byCall;
    }
}
