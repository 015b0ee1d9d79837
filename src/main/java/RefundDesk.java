import java.util.Arrays;
import java.util.NoSuchElementException;

/** A debt office with one loan on a lattice of rates; ../shared/DOC.md tells what each call answers. */
public final class RefundDesk {
    public static final int NONE = -1;
    public static final int HIDDEN = -1000000;

    private static final int HIGHEST_RATE = 999;
    private static final int MOST_YEARS = 12;
    private static final int MOST_DRAWN = 40;
    private static final int MOST_SHIFT = 99;
    private static final int MOST_ROUNDS = 20;

    private final int[] rules = new int[Rule.COUNT];
    private final int[] cells = new int[Cell.COUNT];
    private final int[] trial = new int[Cell.COUNT];
    private final int[] refused = new int[4];
    private final int[] chosen = new int[4];
    private final Tape tape = new Tape();
    private final Reader reader = new Reader(tape);
    private final Scripts scripts = new Scripts();
    private final Tables tables = new Tables(rules);
    private final Office office = new Office(rules, cells, tables);
    private final History history = new History();
    private final Walk walk = new Walk(rules, tables);
    private final Flow flow = new Flow(rules);
    private long drawn;

    public RefundDesk() {
    }

    // ---- texts

    public int feed(int a, int b, int c, int d, int e) {
        int more = tape.countBytes(a) + tape.countBytes(b) + tape.countBytes(c) + tape.countBytes(d) + tape.countBytes(e);
        if (tape.length + more > Tape.ROOM) {
            return NONE;
        }
        tape.addBytes(a);
        tape.addBytes(b);
        tape.addBytes(c);
        tape.addBytes(d);
        tape.addBytes(e);
        return tape.length;
    }

    public boolean end(int n) {
        if (n < 0 || n > tape.length) {
            return false;
        }
        tape.length = n;
        return true;
    }

    public int fault(int sort) {
        return sort < Reader.LOAN || sort > Reader.POLICY ? -2 : reader.examine(sort);
    }

    public int text(int sort) {
        if (sort < Reader.LOAN || sort > Reader.POLICY) {
            return NONE;
        }
        if (sort == Reader.SCRIPT && scripts.size >= Scripts.MOST || sort == Reader.POLICY && noLoan()) {
            return NONE;
        }
        if (reader.examine(sort) != NONE) {
            return NONE;
        }
        tape.length = 0;
        if (sort == Reader.SCRIPT) {
            return scripts.take(reader.parts, reader.size);
        }
        return sort == Reader.LOAN ? takeLoan() : takePolicy();
    }

    private int takeLoan() {
        System.arraycopy(reader.items, 0, rules, 0, Rule.COUNT);
        int last = rules[Rule.YEARS];
        Arrays.fill(cells, 0);
        cells[Cell.COUPON] = rules[Rule.COUPON];
        cells[Cell.REFUNDS] = rules[Rule.REFUNDS];
        for (int t = 0; t < last && t < MOST_YEARS; t++) {
            for (int h = 0; h <= t; h++) {
                int rate = rules[Rule.BASE] + h * rules[Rule.UP] - (t - h) * rules[Rule.DOWN];
                cells[Cell.RATES + Tables.nodeOf(t, h)] = Tables.bounded(rate);
            }
        }
        for (int i = 0; i < reader.size; i++) {
            takeClause(reader.part(i, 0), reader.part(i, 1), reader.part(i, 2), reader.part(i, 3));
        }
        history.clear();
        tables.forget();
        return last;
    }

    /** Years and nodes are looked at here, as the rules may stand behind the clause in the text. */
    private void takeClause(int kind, int year, int second, int third) {
        if (kind == Reader.INSTALMENT_KIND && year >= 1 && year < rules[Rule.YEARS]) {
            cells[Cell.INSTALMENTS + year] = second;
        }
        if (kind == Reader.RATE_KIND && isNode(year, second)) {
            cells[Cell.RATES + Tables.nodeOf(year, second)] = third;
        }
    }

    private int takePolicy() {
        Arrays.fill(cells, Cell.DEEDS, Cell.DEEDS + MOST_YEARS, 0);
        for (int i = 0; i < reader.size; i++) {
            int year = reader.part(i, 1);
            int height = reader.part(i, 2);
            if (isNode(year, height)) {
                Cell.setDeed(cells, year, height, reader.part(i, 3));
            }
        }
        int acting = 0;
        for (int t = 0; t < rules[Rule.YEARS]; t++) {
            for (int h = 0; h <= t; h++) {
                acting += Cell.deedOf(cells, t, h) != Cell.HELD ? 1 : 0;
            }
        }
        return acting;
    }

    // ---- what the loan is

    public int rule(int what) {
        if (noLoan() || what < 0 || what >= Rule.COUNT) {
            return NONE;
        }
        if (what == Rule.COUPON) {
            return cells[Cell.COUPON];
        }
        return what == Rule.REFUNDS ? cells[Cell.REFUNDS] : rules[what];
    }

    public int rate(int year, int height) throws NoSuchElementException {
        if (!isNode(year, height)) {
            throw new NoSuchElementException("no such node");
        }
        return cells[Cell.RATES + Tables.nodeOf(year, height)];
    }

    public int year(int year, int what) {
        if (noLoan() || what < 0 || what > 4 || year < (what < 3 ? 1 : 0) || year > rules[Rule.YEARS]) {
            return NONE;
        }
        tables.look(cells, 0);
        switch (what) {
            case 0:
                return tables.part[year];
            case 1:
                return tables.interestOf(year, cells[Cell.COUPON]);
            case 2:
                return tables.part[year] + tables.interestOf(year, cells[Cell.COUPON]);
            case 3:
                return tables.left[year];
            default:
                return tables.price[year];
        }
    }

    public long costs(int year, int height, int what) {
        if (what < 0 || what > 3) {
            return HIDDEN;
        }
        if (!isNode(year, height)) {
            return NONE;
        }
        Table table = tables.reckon(cells, 0, Tables.LEAST);
        int node = Tables.nodeOf(year, height);
        if (what == 0) {
            return table.cost[node];
        }
        return what - 1 <= tables.lastAllowed(year, table.refunds) ? tables.costOf(table, node, what - 1) : NONE;
    }

    public int best(int year, int height) {
        return isNode(year, height) ? tables.reckon(cells, 0, Tables.LEAST).deed[Tables.nodeOf(year, height)] : NONE;
    }

    // ---- acts

    public int up() {
        return act(Office.UP, 0, 0, 0, true);
    }

    public int down() {
        return act(Office.DOWN, 0, 0, 0, true);
    }

    public int call() {
        return act(Office.CALLED, 0, 0, 0, true);
    }

    public int refund() {
        return act(Office.REFUNDED, 0, 0, 0, true);
    }

    public int withdraw() {
        return act(Office.WITHDRAWN, 0, 0, 0, true);
    }

    public int instal(int year, int amount) {
        return act(Office.INSTALMENT, year, amount, 0, true);
    }

    public int tell(int year, int height, int rate) {
        return act(Office.RATE, year, height, rate, true);
    }

    public int doBest() {
        return act(Office.BEST, 0, 0, 0, true);
    }

    public int adopt() {
        return act(Office.ADOPTED, 0, 0, 0, true);
    }

    public int follow() {
        return act(Office.FOLLOWED, 0, 0, 0, true);
    }

    /** An act goes to the log and can be undone only if it was not refused. */
    private int act(int sort, int a, int b, int c, boolean loud) {
        history.save(cells);
        int answer = office.attempt(sort, a, b, c);
        if (answer >= 0) {
            history.enter(sort, office.number, cells[Cell.PAID]);
            return answer;
        }
        int reason = -1 - answer;
        if (loud && reason >= 0 && reason < refused.length) {
            refused[reason]++;
        }
        return NONE;
    }

    public int years(int n, long seed) {
        if (noLoan() || n < 1 || n > MOST_DRAWN) {
            return NONE;
        }
        drawn = seed;
        for (int i = 0; i < n; i++) {
            chooseByDraws();
            act(chosen[0], chosen[1], chosen[2], chosen[3], false);
        }
        return cells[Cell.PAID];
    }

    /** All draws of an act are made, whether it can be or not: those behind it depend on them. */
    private void chooseByDraws() {
        switch (draw(8)) {
            case 0:
            case 1:
            case 2:
                chosen[0] = draw(100) < rules[Rule.ODDS] ? Office.UP : Office.DOWN;
                break;
            case 3:
                chosen[0] = Office.BEST;
                break;
            case 4:
                chosen[0] = Office.CALLED + draw(3);
                break;
            case 5:
                chosen[0] = Office.INSTALMENT;
                chosen[1] = draw(12) + 1;
                chosen[2] = draw(1000);
                break;
            default:
                chosen[0] = Office.RATE;
                chosen[1] = draw(12);
                chosen[2] = draw(12);
                chosen[3] = draw(200);
                break;
        }
    }

    private int draw(int of) {
        drawn = drawn * 6364136223846793005L + 1442695040888963407L;
        return of < 1 ? 0 : (int) ((drawn >>> 33) % of);
    }

    public int status(int what) {
        return what < 0 || what >= refused.length ? NONE : refused[what];
    }

    public int undo() {
        return history.takeBack(cells) ? history.possible : NONE;
    }

    public int log(int i, int what) {
        return i < 0 || i >= history.shown() || what < 0 || what > 2 ? HIDDEN : history.entry(i, what);
    }

    // ---- what is to come

    public int way(int moves, int what) {
        if (closed() || moves < 0 || what < 0 || what > 2) {
            return NONE;
        }
        walk.go(cells, moves, false);
        if (what == 0) {
            return walk.paid;
        }
        return what == 1 ? walk.renewals : walk.lastYear;
    }

    public int mass(int year, int height) {
        if (closed() || !isNode(year, height) || year < cells[Cell.YEAR]) {
            return NONE;
        }
        flow.pour(cells, tables.reckon(cells, 0, Tables.LEAST));
        return flow.amount[Tables.nodeOf(year, height)];
    }

    public int masses(int what) {
        if (closed() || what < 0 || what > 2) {
            return NONE;
        }
        Table table = tables.reckon(cells, 0, Tables.LEAST);
        flow.pour(cells, table);
        if (what == 2) {
            return flow.atTheEnd();
        }
        int sum = 0;
        for (int t = cells[Cell.YEAR]; t < rules[Rule.YEARS]; t++) {
            sum += flow.stopped(table, t, what + 1);
        }
        return sum;
    }

    public long worth() {
        if (closed()) {
            return NONE;
        }
        int with = tables.reckon(cells, 0, Tables.LEAST).cost[here()];
        return costHere(cells[Cell.COUPON], 0, Tables.ALWAYS_HELD) - with;
    }

    /** The scratch table is used, so that the reckoned ones stay as they are. */
    private int costHere(int coupon, int refunds, int mode) {
        Table table = tables.scratch;
        table.coupon = coupon;
        table.refunds = refunds;
        tables.build(table, cells[Cell.YEAR], cells[Cell.HEIGHT], mode);
        return table.cost[here()];
    }

    public long margin() {
        if (closed() || !tables.mayCall(cells[Cell.YEAR])) {
            return HIDDEN;
        }
        Table table = tables.reckon(cells, 0, Tables.LEAST);
        int node = here();
        int least = tables.costOf(table, node, Cell.CALLED);
        if (table.refunds > 0) {
            least = Math.min(least, tables.costOf(table, node, Cell.REFUNDED));
        }
        return table.held[node] - least;
    }

    public int till() {
        if (closed() || !tables.mayCall(cells[Cell.YEAR])) {
            return NONE;
        }
        Table table = tables.reckon(cells, 0, Tables.LEAST);
        int held = weighedHere(table, table.cost);
        return rules[Rule.NOTICE] > 0 ? tillWithNotice(table, held) : tillAtOnce(held);
    }

    /** What stands above the division by the rate of this node, for one row of the year after. */
    private int weighedHere(Table table, int[] row) {
        int year = cells[Cell.YEAR];
        return tables.weigh(row, year, here(), tables.dueAt(year + 1, table.coupon));
    }

    private int tillWithNotice(Table table, int held) {
        int behind = rules[Rule.NOTICE] - 1;
        int other = weighedHere(table, table.calling[behind]);
        if (table.refunds > 0) {
            other = Math.min(other, weighedHere(table, table.renewing[behind]));
        }
        for (int r = HIGHEST_RATE; r >= 0; r--) {
            if (other * 10 / (1000 + r) < held * 10 / (1000 + r)) {
                return r;
            }
        }
        return NONE;
    }

    /**
     * Without the cuts the question is monotone in the rate, and what holds with the cuts holds without them:
     * so halving finds from where on downward it is worth asking exactly.
     */
    private int tillAtOnce(int held) {
        int top = -1;
        for (int span = 512; span > 0; span /= 2) {
            if (top + span <= HIGHEST_RATE && leavesAt(top + span, held, false)) {
                top += span;
            }
        }
        for (int r = top; r >= 0; r--) {
            if (leavesAt(r, held, true)) {
                return r;
            }
        }
        return NONE;
    }

    /**
     * Whether holding is not best at a rate. Of what a new loan may do at once only its being held counts:
     * to call or renew it at once is never cheaper than to do so with the old one.
     */
    private boolean leavesAt(int rate, int held, boolean cut) {
        int year = cells[Cell.YEAR];
        int divisor = 1000 + rate;
        if (divisor <= 0) {
            return false;
        }
        int price = tables.price[year];
        if (cut ? price < held * 10 / divisor : price * divisor < held * 10) {
            return true;
        }
        if (cells[Cell.REFUNDS] <= 0) {
            return false;
        }
        costHere(tables.couponAt(rate), cells[Cell.REFUNDS] - 1, Tables.LEAST);
        int fresh = weighedHere(tables.scratch, tables.scratch.cost);
        int extra = tables.renewalAt(year);
        return cut ? extra + fresh * 10 / divisor < held * 10 / divisor : extra * divisor + fresh * 10 < held * 10;
    }

    public int edge(int year) {
        if (!isNode(year, 0)) {
            return NONE;
        }
        Table table = tables.reckon(cells, 0, Tables.LEAST);
        for (int h = 0; h <= year; h++) {
            if (table.deed[Tables.nodeOf(year, h)] == Cell.HELD) {
                return h;
            }
        }
        return NONE;
    }

    /** What a node costs never falls as the coupon rises, so halving finds the greatest. */
    public int fair() {
        if (closed()) {
            return NONE;
        }
        tables.reckon(cells, 0, Tables.LEAST);
        int most = tables.left[cells[Cell.YEAR]];
        int found = NONE;
        for (int span = 512; span > 0; span /= 2) {
            int coupon = found + span;
            if (coupon <= HIGHEST_RATE && costHere(coupon, cells[Cell.REFUNDS], Tables.LEAST) <= most) {
                found = coupon;
            }
        }
        return found;
    }

    public int ending(int year, int what) {
        if (closed() || !isNode(year, 0) || year < cells[Cell.YEAR] || what < 0 || what > 1) {
            return NONE;
        }
        Table table = tables.reckon(cells, 0, Tables.LEAST);
        flow.pour(cells, table);
        return flow.stopped(table, year, what + 1);
    }

    public long saved() {
        if (closed()) {
            return NONE;
        }
        int with = tables.reckon(cells, 0, Tables.LEAST).cost[here()];
        return costHere(cells[Cell.COUPON], 0, Tables.LEAST) - with;
    }

    public int sums(int what) {
        if (closed() || what < 0 || what > 1) {
            return NONE;
        }
        tables.look(cells, 0);
        int sum = 0;
        for (int t = cells[Cell.YEAR] + 1; t <= rules[Rule.YEARS]; t++) {
            sum += what == 0 ? tables.interestOf(t, cells[Cell.COUPON]) : tables.part[t];
        }
        return sum;
    }

    // ---- the policy

    public int deed(int year, int height) {
        return isNode(year, height) ? Cell.deedOf(cells, year, height) : NONE;
    }

    public long byPolicy(int year, int height) {
        return isNode(year, height) ? tables.reckon(cells, 0, Tables.BY_DEEDS).cost[Tables.nodeOf(year, height)] : NONE;
    }

    public long regret() {
        if (closed()) {
            return NONE;
        }
        int least = tables.reckon(cells, 0, Tables.LEAST).cost[here()];
        return tables.reckon(cells, 0, Tables.BY_DEEDS).cost[here()] - least;
    }

    public int strays(int what) {
        if (closed() || what < 0 || what > 2) {
            return NONE;
        }
        Table least = tables.reckon(cells, 0, Tables.LEAST);
        Table told = tables.reckon(cells, 0, Tables.BY_DEEDS);
        int year = cells[Cell.YEAR];
        int height = cells[Cell.HEIGHT];
        int strayed = 0;
        for (int t = year; t < rules[Rule.YEARS]; t++) {
            for (int h = height; h <= height + t - year; h++) {
                int node = Tables.nodeOf(t, h);
                if (least.deed[node] != told.deed[node]) {
                    if (what > 0) {
                        return what == 1 ? t : h;
                    }
                    strayed++;
                }
            }
        }
        return what == 0 ? strayed : NONE;
    }

    public int mended(int year, int height) {
        if (!isNode(year, height)) {
            return NONE;
        }
        Table told = tables.reckon(cells, 0, Tables.BY_DEEDS);
        return tables.leastDeed(told, Tables.nodeOf(year, height), tables.lastAllowed(year, told.refunds));
    }

    public int rounds() {
        if (closed()) {
            return NONE;
        }
        System.arraycopy(cells, 0, trial, 0, Cell.COUNT);
        for (int n = 0; n <= MOST_ROUNDS; n++) {
            if (!mendsTrial()) {
                return n;
            }
        }
        return NONE;
    }

    private boolean mendsTrial() {
        Table told = tables.reckon(trial, 0, Tables.BY_DEEDS);
        int year = trial[Cell.YEAR];
        int height = trial[Cell.HEIGHT];
        boolean changed = false;
        for (int t = year; t < rules[Rule.YEARS]; t++) {
            int allowed = tables.lastAllowed(t, told.refunds);
            for (int h = height; h <= height + t - year; h++) {
                int better = tables.leastDeed(told, Tables.nodeOf(t, h), allowed);
                if (better != Cell.deedOf(trial, t, h)) {
                    Cell.setDeed(trial, t, h, better);
                    changed = true;
                }
            }
        }
        return changed;
    }

    public long shifted(int n) {
        if (closed() || n < -MOST_SHIFT || n > MOST_SHIFT) {
            return NONE;
        }
        return tables.reckon(cells, n, Tables.LEAST).cost[here()];
    }

    public int spread(int what) {
        if (closed() || what < 0 || what > 4) {
            return NONE;
        }
        walk.go(cells, 0, true);
        switch (what) {
            case 0:
                return walk.least;
            case 1:
                return walk.greatest;
            case 2:
                return walk.called;
            case 3:
                return walk.unlike;
            default:
                return walk.total;
        }
    }

    // ---- scripts

    public int step(int script, int i, int what) {
        if (!scripts.has(script) || i < 0 || i >= scripts.sizeOf(script) || what < 0 || what > 3) {
            return HIDDEN;
        }
        return scripts.number(script, i, what);
    }

    public int run(int script, int what) {
        if (!scripts.has(script) || noLoan() || what < 0 || what > 1) {
            return HIDDEN;
        }
        System.arraycopy(cells, 0, trial, 0, Cell.COUNT);
        int size = scripts.sizeOf(script);
        int good = 0;
        while (good < size && tries(script, good)) {
            good++;
        }
        int paid = cells[Cell.PAID];
        System.arraycopy(trial, 0, cells, 0, Cell.COUNT);
        if (what == 1) {
            return paid;
        }
        return good == size ? NONE : good;
    }

    private boolean tries(int script, int i) {
        return office.attempt(scripts.number(script, i, 0), scripts.number(script, i, 1),
            scripts.number(script, i, 2), scripts.number(script, i, 3)) >= 0;
    }

    public int perform(int script) {
        if (!scripts.has(script) || noLoan()) {
            return NONE;
        }
        int size = scripts.sizeOf(script);
        for (int i = 0; i < size; i++) {
            int answer = act(scripts.number(script, i, 0), scripts.number(script, i, 1),
                scripts.number(script, i, 2), scripts.number(script, i, 3), false);
            if (answer < 0) {
                return i;
            }
        }
        return size;
    }

    // ---- how it stands

    public int most(int what) {
        if (noLoan() || what < 0 || what > 11) {
            return HIDDEN;
        }
        switch (what) {
            case 0:
                return cells[Cell.PAID];
            case 1:
                return cells[Cell.INTEREST];
            case 2:
                return cells[Cell.PREMIUMS];
            case 3:
                return cells[Cell.FEES];
            case 4:
                return cells[Cell.YEAR];
            case 5:
                return cells[Cell.HEIGHT];
            case 6:
                return leftNow();
            case 7:
                return cells[Cell.ENDED];
            case 8:
                return cells[Cell.KIND];
            case 9:
                return cells[Cell.WAIT];
            case 10:
                return cells[Cell.RENEWED];
            default:
                return greatestRate();
        }
    }

    private int leftNow() {
        tables.look(cells, 0);
        return cells[Cell.ENDED] != 0 ? 0 : tables.left[cells[Cell.YEAR]];
    }

    private int greatestRate() {
        int greatest = 0;
        for (int n = 0; n < Tables.nodeOf(rules[Rule.YEARS], 0); n++) {
            greatest = Math.max(greatest, cells[Cell.RATES + n]);
        }
        return greatest;
    }

    public int image() {
        if (noLoan()) {
            return NONE;
        }
        history.keepImage(cells);
        return cells[Cell.PAID];
    }

    public int back() {
        return history.bringBack(cells) ? cells[Cell.PAID] : NONE;
    }

    public int count(int what) {
        switch (what) {
            case 0:
                return rules[Rule.YEARS];
            case 1:
                return scripts.size;
            case 2:
                return tape.length;
            case 3:
                return history.shown();
            case 4:
                return history.possible;
            default:
                return HIDDEN;
        }
    }

    private boolean noLoan() {
        return rules[Rule.YEARS] == 0;
    }

    private boolean closed() {
        return noLoan() || cells[Cell.ENDED] != 0;
    }

    private boolean isNode(int year, int height) {
        return year >= 0 && year < rules[Rule.YEARS] && height >= 0 && height <= year;
    }

    /** Asked only while the loan goes on: then the office stands at a node. */
    private int here() {
        return Tables.nodeOf(cells[Cell.YEAR], cells[Cell.HEIGHT]);
    }

    /** The places of the rules, in the order in which rule() tells them. */
    private static final class Rule {
        static final int PRINCIPAL = 0;
        static final int YEARS = 1;
        static final int COUPON = 2;
        static final int BASE = 3;
        static final int UP = 4;
        static final int DOWN = 5;
        static final int ODDS = 6;
        static final int PREMIUM = 7;
        static final int STEP = 8;
        static final int FIRST = 9;
        static final int NOTICE = 10;
        static final int REFUNDS = 11;
        static final int SPREAD = 12;
        static final int FEE = 13;
        static final int COUNT = 14;
    }

    /** The places of all that acts change: one row, so that undoing and images copy it as a whole. */
    private static final class Cell {
        static final int YEAR = 0;
        static final int HEIGHT = 1;
        static final int COUPON = 2;
        static final int REFUNDS = 3;
        static final int KIND = 4;
        static final int WAIT = 5;
        static final int PAID = 6;
        static final int INTEREST = 7;
        static final int PREMIUMS = 8;
        static final int FEES = 9;
        static final int RENEWED = 10;
        static final int ENDED = 11;
        static final int INSTALMENTS = 12;
        static final int RATES = INSTALMENTS + MOST_YEARS + 1;
        static final int DEEDS = RATES + Tables.NODES;
        static final int COUNT = DEEDS + MOST_YEARS;

        static final int HELD = 0;
        static final int CALLED = 1;
        static final int REFUNDED = 2;

        /** The deeds of a year lie in one cell, two bits a height: that keeps the undo rows short. */
        static int deedOf(int[] row, int year, int height) {
            return row[DEEDS + year] >> (2 * height) & 3;
        }

        static void setDeed(int[] row, int year, int height, int deed) {
            row[DEEDS + year] = row[DEEDS + year] & ~(3 << (2 * height)) | deed << (2 * height);
        }
    }

    /** The bytes that were fed and not yet taken as a text. */
    private static final class Tape {
        static final int ROOM = 320;

        final byte[] bytes = new byte[ROOM];
        int length;

        int countBytes(int four) {
            int found = 0;
            for (int shift = 24; shift >= 0; shift -= 8) {
                found += (four >>> shift & 255) != 0 ? 1 : 0;
            }
            return found;
        }

        void addBytes(int four) {
            for (int shift = 24; shift >= 0; shift -= 8) {
                int one = four >>> shift & 255;
                if (one != 0 && length < ROOM) {
                    bytes[length] = (byte) one;
                    length++;
                }
            }
        }

        /** Behind the last byte there is 0, which the tape itself never holds. */
        int at(int place) {
            return place >= 0 && place < length ? bytes[place] & 255 : 0;
        }
    }

    /** Reads the tape as a text: finds the fault, or leaves what the text tells in items and parts. */
    private static final class Reader {
        static final int LOAN = 0;
        static final int SCRIPT = 1;
        static final int POLICY = 2;

        static final int RULES_KIND = 0;
        static final int INSTALMENT_KIND = 1;
        static final int RATE_KIND = 2;
        static final int POLICY_KIND = 3;

        private static final int GOOD = -1;
        private static final int PART = 4;
        private static final int MOST_PARTS = 28;
        private static final int MOST_DIGITS = 4;
        private static final int HIGHEST_NUMBER = 9999;

        private static final char[] KINDS = {'l', 'i', 'x', 'p'};
        private static final int[] LIMITS = {1, 12, 16, 24};
        private static final int[] FROM = {0, 14, 16, 19, 22};
        private static final char[] LETTERS = {
            'p', 't', 'c', 'b', 'u', 'd', 'q', 'm', 's', 'f', 'n', 'k', 'g', 'e',
            'y', 'a', 'y', 'h', 'r', 'y', 'h', 'a'};
        private static final int[] LOWEST = {
            1, 1, 0, 0, 0, 0, 0, 0, 0, 0, 0, 0, 0, 0,
            1, 0, 0, 0, 0, 0, 0, 0};
        private static final int[] HIGHEST = {
            9999, 12, 999, 999, 99, 99, 100, 999, 99, 12, 2, 2, 99, 999,
            12, 9999, 11, 11, 999, 11, 11, 2};
        private static final int[] PLAIN = {
            1000, 5, 50, 50, 10, 10, 50, 20, 5, 1, 0, 1, 0, 5,
            1, 0, 0, 0, 0, 0, 0, 0};
        private static final char[] STEPS = {'u', 'd', 'c', 'r', 'w', 'i', 'x', 'b', 'a', 'f'};

        final int[] items = new int[Rule.COUNT];
        final int[] parts = new int[MOST_PARTS * PART];
        int size;
        private final int[] counted = new int[4];
        private final Tape tape;
        private int at;
        private int number;

        Reader(Tape tape) {
            this.tape = tape;
        }

        int examine(int sort) {
            at = 0;
            size = 0;
            Arrays.fill(counted, 0);
            System.arraycopy(PLAIN, 0, items, 0, Rule.COUNT);
            return sort == SCRIPT ? readSteps() : readClauses(sort);
        }

        /** What a part tells: its kind (or the step's code), then its numbers. */
        int part(int i, int what) {
            return i >= 0 && i < size && what >= 0 && what < PART ? parts[i * PART + what] : NONE;
        }

        private int readClauses(int sort) {
            for (int turn = 0; turn <= Tape.ROOM; turn++) {
                skipBlanks();
                int kind = placeOf(KINDS, 0, KINDS.length, tape.at(at));
                if (kind == NONE || (kind == POLICY_KIND) != (sort == POLICY) || counted[kind] >= LIMITS[kind]) {
                    return at;
                }
                counted[kind]++;
                at++;
                int wrong = readItems(kind);
                if (wrong != GOOD) {
                    return wrong;
                }
                if (at >= tape.length) {
                    return GOOD;
                }
                at++;
            }
            return at;
        }

        /** Ends without a fault at the ; behind the items or at the tape's end. */
        private int readItems(int kind) {
            int seen = 0;
            int first = FROM[kind];
            int put = startPart(kind);
            for (int turn = 0; turn <= Tape.ROOM; turn++) {
                skipBlanks();
                if (at >= tape.length || tape.at(at) == ';') {
                    return GOOD;
                }
                int item = placeOf(LETTERS, first, FROM[kind + 1], tape.at(at));
                if (item == NONE || (seen >> item - first & 1) != 0) {
                    return at;
                }
                seen |= 1 << item - first;
                at++;
                int wrong = readNumber(LOWEST[item], HIGHEST[item]);
                if (wrong != GOOD) {
                    return wrong;
                }
                if (kind == RULES_KIND) {
                    items[item] = number;
                } else {
                    parts[put + 1 + item - first] = number;
                }
            }
            return at;
        }

        /** The rules have a row of their own; of all other clauses the plain numbers are laid down first. */
        private int startPart(int kind) {
            if (kind == RULES_KIND || size >= MOST_PARTS) {
                return 0;
            }
            int put = size * PART;
            size++;
            Arrays.fill(parts, put, put + PART, NONE);
            parts[put] = kind;
            for (int item = FROM[kind]; item < FROM[kind + 1]; item++) {
                parts[put + 1 + item - FROM[kind]] = PLAIN[item];
            }
            return put;
        }

        private int readSteps() {
            for (int turn = 0; turn < Scripts.MOST_STEPS; turn++) {
                skipBlanks();
                int code = placeOf(STEPS, 0, STEPS.length, tape.at(at));
                if (code == NONE) {
                    return at;
                }
                at++;
                int wrong = readStepNumbers(code);
                if (wrong != GOOD) {
                    return wrong;
                }
                skipBlanks();
                if (at >= tape.length) {
                    return GOOD;
                }
                if (tape.at(at) != ';' || size >= Scripts.MOST_STEPS) {
                    return at;
                }
                at++;
            }
            return at;
        }

        private int readStepNumbers(int code) {
            int put = size * PART;
            size++;
            Arrays.fill(parts, put, put + PART, NONE);
            parts[put] = code;
            int wanted = code == Office.INSTALMENT ? 2 : code == Office.RATE ? 3 : 0;
            for (int k = 1; k <= wanted; k++) {
                if (k > 1) {
                    skipBlanks();
                    if (tape.at(at) != ',') {
                        return at;
                    }
                    at++;
                }
                int wrong = readNumber(0, HIGHEST_NUMBER);
                if (wrong != GOOD) {
                    return wrong;
                }
                parts[put + k] = number;
            }
            return GOOD;
        }

        /** A fifth digit is wrong itself, so the bounds are asked only of a number that has ended. */
        private int readNumber(int lowest, int highest) {
            skipBlanks();
            if (!isDigit(tape.at(at))) {
                return at;
            }
            number = 0;
            for (int digits = 0; digits <= MOST_DIGITS && isDigit(tape.at(at)); digits++) {
                if (digits == MOST_DIGITS) {
                    return at;
                }
                number = number * 10 + tape.at(at) - '0';
                at++;
            }
            return number < lowest || number > highest ? at - 1 : GOOD;
        }

        private static boolean isDigit(int sign) {
            return sign >= '0' && sign <= '9';
        }

        private void skipBlanks() {
            while (at < tape.length && tape.at(at) == ' ') {
                at++;
            }
        }

        private static int placeOf(char[] signs, int from, int until, int sign) {
            for (int i = from; i < until && i < signs.length; i++) {
                if (signs[i] == sign) {
                    return i;
                }
            }
            return NONE;
        }
    }

    /** The scripts that were told, their steps four numbers each. */
    private static final class Scripts {
        static final int MOST = 4;
        static final int MOST_STEPS = 16;
        private static final int WIDTH = 4;

        private final int[] steps = new int[MOST * MOST_STEPS * WIDTH];
        private final int[] sizes = new int[MOST];
        int size;

        boolean has(int script) {
            return script >= 0 && script < size;
        }

        int sizeOf(int script) {
            return has(script) ? sizes[script] : 0;
        }

        int number(int script, int i, int what) {
            boolean there = i >= 0 && i < sizeOf(script) && what >= 0 && what < WIDTH;
            return there ? steps[(script * MOST_STEPS + i) * WIDTH + what] : NONE;
        }

        int take(int[] parts, int length) {
            if (size >= MOST || length > MOST_STEPS) {
                return NONE;
            }
            System.arraycopy(parts, 0, steps, size * MOST_STEPS * WIDTH, length * WIDTH);
            sizes[size] = length;
            size++;
            return size - 1;
        }
    }

    /** What the nodes cost by one coupon and one number of refunds left. */
    private static final class Table {
        final int[] cost = new int[Tables.NODES_AND_END];
        final int[] held = new int[Tables.NODES_AND_END];
        final int[] deed = new int[Tables.NODES_AND_END];
        /** By how many years the notice runs still. */
        final int[][] calling = new int[3][Tables.NODES_AND_END];
        final int[][] renewing = new int[3][Tables.NODES_AND_END];
        int coupon;
        int refunds;
        boolean known;
    }

    /** Reckons tables backward; what was reckoned is kept till rates, instalments or deeds are others. */
    private static final class Tables {
        static final int NODES = 78;
        static final int NODES_AND_END = 91;

        static final int LEAST = 0;
        static final int BY_DEEDS = 1;
        static final int ALWAYS_HELD = 2;

        final int[] left = new int[MOST_YEARS + 1];
        final int[] part = new int[MOST_YEARS + 1];
        final int[] price = new int[MOST_YEARS + 1];
        final Table scratch = new Table();
        final Table least = new Table();
        private final Table byDeeds = new Table();
        private final int[] rules;
        /** Rates, instalments told and deeds as they were looked at, at the places of the cells. */
        private final int[] seen = new int[Cell.COUNT];
        /** What a new loan costs that begins at a node with 0 or 1 refunds left. */
        private final int[][] leastNew = new int[2][NODES];
        private final int[][] deedsNew = new int[2][NODES];
        /** How many rows of new loans are known, of the least costs and by deeds. */
        private final int[] levels = new int[2];
        private boolean stale;

        Tables(int[] rules) {
            this.rules = rules;
        }

        static int nodeOf(int year, int height) {
            return year * (year + 1) / 2 + height;
        }

        static int bounded(int rate) {
            return Math.max(0, Math.min(HIGHEST_RATE, rate));
        }

        void forget() {
            stale = true;
        }

        /** Takes over what the cells tell; only what is another makes tables unknown. */
        void look(int[] cells, int shift) {
            boolean other = stale;
            stale = false;
            for (int i = Cell.RATES; i < Cell.RATES + NODES; i++) {
                int rate = bounded(cells[i] + shift);
                other |= seen[i] != rate;
                seen[i] = rate;
            }
            if (takesOver(cells, Cell.INSTALMENTS, Cell.RATES) || other) {
                other = true;
                reckonYears();
            }
            if (other) {
                levels[LEAST] = 0;
                least.known = false;
            }
            if (takesOver(cells, Cell.DEEDS, Cell.COUNT) || other) {
                levels[BY_DEEDS] = 0;
                byDeeds.known = false;
            }
        }

        private boolean takesOver(int[] cells, int from, int until) {
            boolean other = false;
            for (int i = from; i < until && i < seen.length; i++) {
                other |= seen[i] != cells[i];
                seen[i] = cells[i];
            }
            return other;
        }

        private void reckonYears() {
            int last = rules[Rule.YEARS];
            left[0] = rules[Rule.PRINCIPAL];
            price[0] = priceOf(0);
            for (int t = 1; t <= last && t <= MOST_YEARS; t++) {
                part[t] = t == last ? left[t - 1] : Math.min(left[t - 1], seen[Cell.INSTALMENTS + t]);
                left[t] = left[t - 1] - part[t];
                price[t] = priceOf(t);
            }
        }

        private int priceOf(int year) {
            return left[year] + left[year] * Math.max(0, rules[Rule.PREMIUM] - year * rules[Rule.STEP]) / 1000;
        }

        int interestOf(int year, int coupon) {
            return year >= 1 && year <= MOST_YEARS ? left[year - 1] * coupon / 1000 : 0;
        }

        int dueAt(int year, int coupon) {
            return year >= 1 && year <= MOST_YEARS ? part[year] + interestOf(year, coupon) : 0;
        }

        /** What is paid as a loan is renewed, the new loan itself apart. */
        int renewalAt(int year) {
            return price[year] - left[year] + rules[Rule.FEE];
        }

        int couponAt(int rate) {
            return Math.min(HIGHEST_RATE, rate + rules[Rule.SPREAD]);
        }

        int couponOfNode(int node) {
            return couponAt(seen[Cell.RATES + node]);
        }

        boolean mayCall(int year) {
            return year >= rules[Rule.FIRST] && year + rules[Rule.NOTICE] < rules[Rule.YEARS];
        }

        int costOf(Table table, int node, int deed) {
            if (deed == Cell.HELD) {
                return table.held[node];
            }
            return (deed == Cell.CALLED ? table.calling : table.renewing)[rules[Rule.NOTICE]][node];
        }

        /** The last deed, in the document's order, that may be: those ahead of it may be, too. */
        int lastAllowed(int year, int refunds) {
            if (!mayCall(year)) {
                return Cell.HELD;
            }
            return refunds > 0 ? Cell.REFUNDED : Cell.CALLED;
        }

        /** Of several that cost the same the first one in the document's order. */
        int leastDeed(Table table, int node, int allowed) {
            int notice = rules[Rule.NOTICE];
            int found = Cell.HELD;
            int cost = table.held[node];
            if (allowed >= Cell.CALLED && table.calling[notice][node] < cost) {
                found = Cell.CALLED;
                cost = table.calling[notice][node];
            }
            if (allowed >= Cell.REFUNDED && table.renewing[notice][node] < cost) {
                found = Cell.REFUNDED;
            }
            return found;
        }

        /** The table of all nodes, by coupon and refunds of the cells; mode: LEAST or BY_DEEDS. */
        Table reckon(int[] cells, int shift, int mode) {
            look(cells, shift);
            Table out = mode == BY_DEEDS ? byDeeds : least;
            int coupon = cells[Cell.COUPON];
            int refunds = cells[Cell.REFUNDS];
            if (out.known && out.coupon == coupon && out.refunds == refunds) {
                return out;
            }
            int[][] fresh = mode == BY_DEEDS ? deedsNew : leastNew;
            for (int level = levels[mode]; level < refunds && level < 2; level++) {
                for (int t = rules[Rule.FIRST] + rules[Rule.NOTICE]; t < rules[Rule.YEARS]; t++) {
                    for (int h = 0; h <= t; h++) {
                        int node = nodeOf(t, h);
                        scratch.coupon = couponOfNode(node);
                        scratch.refunds = level;
                        build(scratch, t, h, mode);
                        fresh[level][node] = scratch.cost[node];
                    }
                }
            }
            levels[mode] = Math.max(levels[mode], refunds);
            out.coupon = coupon;
            out.refunds = refunds;
            out.known = true;
            build(out, 0, 0, mode);
            return out;
        }

        /** Fills a table, whose coupon and refunds are set, for all nodes that can be come to from one. */
        void build(Table out, int year, int height, int mode) {
            int last = rules[Rule.YEARS];
            int end = nodeOf(last, height);
            Arrays.fill(out.cost, end, end + last - year + 1, 0);
            for (int t = last - 1; t >= year; t--) {
                int due = dueAt(t + 1, out.coupon);
                int allowed = mode == ALWAYS_HELD ? Cell.HELD : lastAllowed(t, out.refunds);
                int first = nodeOf(t, height);
                for (int h = 0; h <= t - year; h++) {
                    int node = first + h;
                    reckonDeeds(out, t, node, due, mode);
                    int deed = mode == BY_DEEDS ? Cell.deedOf(seen, t, height + h) : leastDeed(out, node, allowed);
                    out.deed[node] = deed <= allowed ? deed : Cell.HELD;
                    out.cost[node] = costOf(out, node, out.deed[node]);
                }
            }
        }

        /** What each deed costs at a node; what may not be there is reckoned, too, as a notice may end there. */
        private void reckonDeeds(Table out, int t, int node, int due, int mode) {
            int divisor = 1000 + seen[Cell.RATES + node];
            if (divisor <= 0) {
                return;
            }
            out.held[node] = weigh(out.cost, t, node, due) * 10 / divisor;
            out.calling[0][node] = price[t];
            if (out.refunds > 0) {
                int[][] fresh = mode == BY_DEEDS ? deedsNew : leastNew;
                out.renewing[0][node] = renewalAt(t) + fresh[Math.min(out.refunds, 2) - 1][node];
            }
            for (int k = 1; k <= rules[Rule.NOTICE] && t + k < rules[Rule.YEARS]; k++) {
                out.calling[k][node] = weigh(out.calling[k - 1], t, node, due) * 10 / divisor;
                out.renewing[k][node] = weigh(out.renewing[k - 1], t, node, due) * 10 / divisor;
            }
        }

        /** Both numbers of the year after by their odds, what is due added to each, a hundredfold. */
        int weigh(int[] row, int t, int node, int due) {
            int odds = rules[Rule.ODDS];
            return 100 * due + odds * row[node + t + 2] + (100 - odds) * row[node + t + 1];
        }
    }

    /** Does the acts, or answers -1 less the number of the status by which one is refused. */
    private static final class Office {
        static final int UP = 0;
        static final int DOWN = 1;
        static final int CALLED = 2;
        static final int REFUNDED = 3;
        static final int WITHDRAWN = 4;
        static final int INSTALMENT = 5;
        static final int RATE = 6;
        static final int BEST = 7;
        static final int ADOPTED = 8;
        static final int FOLLOWED = 9;

        private static final int NO_SUCH = -1;
        private static final int OUT_OF_BOUNDS = -2;
        private static final int IS_SO = -3;
        private static final int MAY_NOT = -4;
        private static final int HIGHEST_AMOUNT = 9999;

        private final int[] rules;
        private final int[] cells;
        private final Tables tables;
        /** The number that the log tells of the latest act. */
        int number;

        Office(int[] rules, int[] cells, Tables tables) {
            this.rules = rules;
            this.cells = cells;
            this.tables = tables;
        }

        int attempt(int sort, int a, int b, int c) {
            if (rules[Rule.YEARS] == 0 || cells[Cell.ENDED] != 0) {
                return NO_SUCH;
            }
            tables.look(cells, 0);
            number = cells[Cell.YEAR];
            switch (sort) {
                case UP:
                    return passYear(1);
                case DOWN:
                    return passYear(0);
                case CALLED:
                    return giveNotice(Cell.CALLED);
                case REFUNDED:
                    return giveNotice(Cell.REFUNDED);
                case WITHDRAWN:
                    return takeNoticeBack();
                case INSTALMENT:
                    return tellInstalment(a, b);
                case RATE:
                    return tellRate(a, b, c);
                case BEST:
                    return carryOut(tables.reckon(cells, 0, Tables.LEAST).deed[here()]);
                case ADOPTED:
                    return takeDeeds(tables.reckon(cells, 0, Tables.LEAST));
                case FOLLOWED:
                    return carryOut(Cell.deedOf(cells, cells[Cell.YEAR], cells[Cell.HEIGHT]));
                default:
                    return NO_SUCH;
            }
        }

        private int here() {
            return Tables.nodeOf(cells[Cell.YEAR], cells[Cell.HEIGHT]);
        }

        private int passYear(int rise) {
            int year = cells[Cell.YEAR] + 1;
            int interest = tables.interestOf(year, cells[Cell.COUPON]);
            int paid = tables.dueAt(year, cells[Cell.COUPON]);
            number = year;
            cells[Cell.YEAR] = year;
            cells[Cell.HEIGHT] += rise;
            cells[Cell.INTEREST] += interest;
            cells[Cell.PAID] += paid;
            if (cells[Cell.KIND] != 0) {
                cells[Cell.WAIT]--;
                if (cells[Cell.WAIT] <= 0) {
                    paid += settleNotice(cells[Cell.KIND]);
                }
            }
            if (year >= rules[Rule.YEARS]) {
                cells[Cell.ENDED] = 1;
            }
            return paid;
        }

        private int giveNotice(int kind) {
            if (cells[Cell.KIND] != 0) {
                return IS_SO;
            }
            if (kind > tables.lastAllowed(cells[Cell.YEAR], cells[Cell.REFUNDS])) {
                return MAY_NOT;
            }
            if (rules[Rule.NOTICE] == 0) {
                return settleNotice(kind);
            }
            cells[Cell.KIND] = kind;
            cells[Cell.WAIT] = rules[Rule.NOTICE];
            return 0;
        }

        /** Notice always runs out ahead of the last year, so there is a node with a rate here. */
        private int settleNotice(int kind) {
            int year = cells[Cell.YEAR];
            int paid = tables.price[year];
            cells[Cell.KIND] = 0;
            cells[Cell.WAIT] = 0;
            cells[Cell.PREMIUMS] += tables.price[year] - tables.left[year];
            if (kind == Cell.CALLED) {
                cells[Cell.ENDED] = 1;
            } else {
                paid = tables.renewalAt(year);
                cells[Cell.FEES] += rules[Rule.FEE];
                cells[Cell.COUPON] = tables.couponAt(cells[Cell.RATES + here()]);
                cells[Cell.REFUNDS]--;
                cells[Cell.RENEWED]++;
            }
            cells[Cell.PAID] += paid;
            return paid;
        }

        private int takeNoticeBack() {
            if (cells[Cell.KIND] == 0) {
                return IS_SO;
            }
            int still = cells[Cell.WAIT];
            cells[Cell.KIND] = 0;
            cells[Cell.WAIT] = 0;
            return still;
        }

        private int tellInstalment(int year, int amount) {
            if (year <= cells[Cell.YEAR] || year >= rules[Rule.YEARS]) {
                return NO_SUCH;
            }
            if (amount < 0 || amount > HIGHEST_AMOUNT) {
                return OUT_OF_BOUNDS;
            }
            int old = cells[Cell.INSTALMENTS + year];
            if (old == amount) {
                return IS_SO;
            }
            cells[Cell.INSTALMENTS + year] = amount;
            number = year;
            return old;
        }

        private int tellRate(int year, int height, int rate) {
            if (year < cells[Cell.YEAR] || year >= rules[Rule.YEARS]) {
                return NO_SUCH;
            }
            if (height < cells[Cell.HEIGHT] || height > cells[Cell.HEIGHT] + year - cells[Cell.YEAR]) {
                return NO_SUCH;
            }
            if (rate < 0 || rate > HIGHEST_RATE) {
                return OUT_OF_BOUNDS;
            }
            int place = Cell.RATES + Tables.nodeOf(year, height);
            int old = cells[place];
            if (old == rate) {
                return IS_SO;
            }
            cells[place] = rate;
            number = year;
            return old;
        }

        /** Of the best and of the policy: what may not be is as good as held. */
        private int carryOut(int deed) {
            boolean may = deed != Cell.HELD && deed <= tables.lastAllowed(cells[Cell.YEAR], cells[Cell.REFUNDS]);
            if (!may || cells[Cell.KIND] != 0) {
                return IS_SO;
            }
            giveNotice(deed);
            number = deed == Cell.CALLED ? CALLED : REFUNDED;
            return deed;
        }

        private int takeDeeds(Table table) {
            int year = cells[Cell.YEAR];
            int height = cells[Cell.HEIGHT];
            int others = 0;
            for (int t = year; t < rules[Rule.YEARS]; t++) {
                for (int h = height; h <= height + t - year; h++) {
                    int deed = table.deed[Tables.nodeOf(t, h)];
                    if (deed != Cell.deedOf(cells, t, h)) {
                        Cell.setDeed(cells, t, h, deed);
                        others++;
                    }
                }
            }
            number = others;
            return others == 0 ? IS_SO : others;
        }
    }

    /** The log, the rows from ahead of the latest acts, and the image. */
    private static final class History {
        private static final int MOST_UNDONE = 40;
        /** One row more than can be undone: it is written ahead of an act that may be refused yet. */
        private static final int ROWS = MOST_UNDONE + 1;
        private static final int SHOWN = 60;
        /** As many entries as are shown still when all that can be undone is undone. */
        private static final int ENTRIES = SHOWN + MOST_UNDONE;
        private static final int ENTRY = 3;

        int possible;
        private final int[] rows = new int[ROWS * Cell.COUNT];
        private final int[] entries = new int[ENTRIES * ENTRY];
        private final int[] imageCells = new int[Cell.COUNT];
        private final int[] imageEntries = new int[ENTRIES * ENTRY];
        private int next;
        private int entered;
        private int imageEntered;
        private boolean hasImage;

        void clear() {
            possible = 0;
            next = 0;
            entered = 0;
            hasImage = false;
        }

        void save(int[] cells) {
            System.arraycopy(cells, 0, rows, next * Cell.COUNT, Cell.COUNT);
        }

        /** The act whose cells were saved was done. */
        void enter(int sort, int number, int paid) {
            next = (next + 1) % ROWS;
            possible = Math.min(MOST_UNDONE, possible + 1);
            int place = entered % ENTRIES * ENTRY;
            entries[place] = sort;
            entries[place + 1] = number;
            entries[place + 2] = paid;
            entered++;
        }

        boolean takeBack(int[] cells) {
            if (possible == 0 || entered == 0) {
                return false;
            }
            next = (next + ROWS - 1) % ROWS;
            possible--;
            entered--;
            System.arraycopy(rows, next * Cell.COUNT, cells, 0, Cell.COUNT);
            return true;
        }

        int shown() {
            return Math.min(SHOWN, entered);
        }

        int entry(int i, int what) {
            if (i < 0 || i >= shown() || what < 0 || what >= ENTRY) {
                return HIDDEN;
            }
            return entries[(entered - 1 - i) % ENTRIES * ENTRY + what];
        }

        void keepImage(int[] cells) {
            System.arraycopy(cells, 0, imageCells, 0, Cell.COUNT);
            System.arraycopy(entries, 0, imageEntries, 0, ENTRIES * ENTRY);
            imageEntered = entered;
            hasImage = true;
        }

        boolean bringBack(int[] cells) {
            if (!hasImage) {
                return false;
            }
            System.arraycopy(imageCells, 0, cells, 0, Cell.COUNT);
            System.arraycopy(imageEntries, 0, entries, 0, ENTRIES * ENTRY);
            entered = imageEntered;
            possible = 0;
            return true;
        }
    }

    /** Goes one way, or all ways, from where the office stands, doing the best at each node. */
    private static final class Walk {
        /** A way pays less than 64 times this: twelve years' interest, the principal, three premiums, two fees. */
        private static final int SUMS = 2560;
        private static final int BEYOND = SUMS * 64;

        int paid;
        int renewals;
        int lastYear;
        int least;
        int greatest;
        int called;
        int unlike;
        int total;
        private final int[] rules;
        private final Tables tables;
        /** The loan as it is, then the new ones, each reckoned as a way comes to its renewal. */
        private final Table[] levels = new Table[3];
        private final long[] sums = new long[SUMS];
        private boolean all;
        private int moves;
        private int start;

        Walk(int[] rules, Tables tables) {
            this.rules = rules;
            this.tables = tables;
            levels[0] = tables.least;
            levels[1] = new Table();
            levels[2] = new Table();
        }

        void go(int[] cells, int bits, boolean allWays) {
            all = allWays;
            moves = bits;
            start = cells[Cell.YEAR];
            least = BEYOND;
            greatest = 0;
            called = 0;
            unlike = 0;
            total = 0;
            Arrays.fill(sums, 0);
            tables.reckon(cells, 0, Tables.LEAST);
            arrive(0, start, cells[Cell.HEIGHT], 0);
        }

        private void arrive(int level, int year, int height, int sum) {
            if (year >= rules[Rule.YEARS]) {
                finish(level, year, sum, false);
                return;
            }
            int deed = levels[level].deed[Tables.nodeOf(year, height)];
            if (deed == Cell.HELD || rules[Rule.NOTICE] > 0) {
                passYear(level, year, height, sum, deed, deed == Cell.HELD ? 0 : rules[Rule.NOTICE]);
            } else {
                settleNotice(level, year, height, sum, deed);
            }
        }

        private void passYear(int level, int year, int height, int sum, int kind, int wait) {
            if (year >= rules[Rule.YEARS]) {
                return;
            }
            int after = sum + tables.dueAt(year + 1, levels[level].coupon);
            int first = all ? 0 : moves >>> (year - start) & 1;
            int last = all ? 1 : first;
            for (int rise = first; rise <= last; rise++) {
                if (wait == 0) {
                    arrive(level, year + 1, height + rise, after);
                } else if (wait == 1) {
                    settleNotice(level, year + 1, height + rise, after, kind);
                } else {
                    passYear(level, year + 1, height + rise, after, kind, wait - 1);
                }
            }
        }

        private void settleNotice(int level, int year, int height, int sum, int kind) {
            if (kind == Cell.CALLED || level + 1 >= levels.length) {
                finish(level, year, sum + tables.price[year], true);
                return;
            }
            Table fresh = levels[level + 1];
            fresh.coupon = tables.couponOfNode(Tables.nodeOf(year, height));
            fresh.refunds = levels[level].refunds - 1;
            tables.build(fresh, year, height, Tables.LEAST);
            arrive(level + 1, year, height, sum + tables.renewalAt(year));
        }

        /** A way that ends early stands for all rows of moves that begin as it does. */
        private void finish(int level, int year, int sum, boolean byCall) {
            paid = sum;
            renewals = level;
            lastYear = year;
            if (!all) {
                return;
            }
            int rows = 1 << rules[Rule.YEARS] - year;
            least = Math.min(least, sum);
            greatest = Math.max(greatest, sum);
            called += byCall ? rows : 0;
            total += sum * rows;
            int place = sum >> 6;
            if (place >= 0 && place < SUMS && (sums[place] >>> (sum & 63) & 1L) == 0) {
                sums[place] |= 1L << (sum & 63);
                unlike++;
            }
        }
    }

    /** How the mass goes through the nodes, from where the office stands. */
    private static final class Flow {
        private static final int WHOLE = 1000000000;

        final int[] amount = new int[Tables.NODES_AND_END];
        private final int[] rules;

        Flow(int[] rules) {
            this.rules = rules;
        }

        void pour(int[] cells, Table table) {
            int year = cells[Cell.YEAR];
            int height = cells[Cell.HEIGHT];
            Arrays.fill(amount, 0);
            amount[Tables.nodeOf(year, height)] = WHOLE;
            for (int t = year; t < rules[Rule.YEARS]; t++) {
                int first = Tables.nodeOf(t, height);
                for (int node = first; node <= first + t - year; node++) {
                    if (table.deed[node] == Cell.HELD) {
                        int rising = (int) ((long) amount[node] * rules[Rule.ODDS] / 100);
                        amount[node + t + 2] += rising;
                        amount[node + t + 1] += amount[node] - rising;
                    }
                }
            }
        }

        int stopped(Table table, int year, int deed) {
            int sum = 0;
            for (int h = 0; h <= year; h++) {
                int node = Tables.nodeOf(year, h);
                sum += table.deed[node] == deed ? amount[node] : 0;
            }
            return sum;
        }

        int atTheEnd() {
            int last = rules[Rule.YEARS];
            int sum = 0;
            for (int h = 0; h <= last; h++) {
                sum += amount[Tables.nodeOf(last, h)];
            }
            return sum;
        }
    }
}
