import java.util.Random;

/**
 * Runs of calls as long as the document promises anything for, made from fixed seeds, on SmokeLedger
 * and on SlowLedger: the answers are the same.
 */
public final class ModelTest {
    private static final int NONE = -9;
    private static final int CALLS = 512;
    private static final int[] WILD = {
        Integer.MIN_VALUE, -10, NONE, -8, -2, -1, 0, 1, 2, 3, 4, 5, 7, 9, 10, 11, 79, 80, 99, 100, 101, 200,
        365, 1000, 1001, 3649, 3650, 19999, 20000, 20001, 100000, 100001, Integer.MAX_VALUE};

    private final SmokeLedger x = new SmokeLedger();
    private final SlowLedger y = new SlowLedger();
    private final Random random;
    /** How many of a hundred arguments are taken from WILD. */
    private final int wildness;
    /** Which calls are made often: 0 all alike, 1 units, 2 rows and totals, 3 certificates. */
    private final int leaning;
    private final int lastDay;
    private final int longest;
    /** What is told nearly as often as it may be, ahead of all else. */
    private final int filling;

    private ModelTest(long seed) {
        random = new Random(seed);
        wildness = seed % 5 == 0 ? 30 : 2;
        leaning = (int) (seed % 4);
        lastDay = seed % 3 == 0 ? 3649 : 40;
        longest = seed % 7 == 0 ? 8000 : 12;
        filling = (int) (seed % 11);
    }

    public static void main(String[] args) {
        for (long seed = 1; seed <= 660; seed++) {
            new ModelTest(seed).play();
        }
        Due.finish();
    }

    /** Each answer that is looked at is one call; a step takes two at most. */
    private void play() {
        int before = Due.asked();
        int first = random.nextInt(10);
        for (int i = 0; i < first; i++) {
            Due.is("unit", x.unit(), y.unit());
        }
        fill();
        while (Due.asked() - before < CALLS - 1) {
            step();
        }
    }

    private void fill() {
        switch (filling) {
            case 1: repeat(198, this::tellRow); break;
            case 2: repeat(79, this::tellFactor); break;
            case 3: repeat(200, this::tellHolding); break;
            case 4: Due.is("issue", x.issue(0, 19980), y.issue(0, 19980)); break;
            default: break;
        }
    }

    private static void repeat(int times, Runnable what) {
        for (int i = 0; i < times; i++) {
            what.run();
        }
    }

    private void step() {
        int group = leaning == 0 || random.nextInt(4) == 0 ? 1 + random.nextInt(3) : leaning;
        switch (group) {
            case 1: unitsStep(); break;
            case 2: rowsStep(); break;
            default: certificatesStep(); break;
        }
    }

    private int pick(int low, int high) {
        if (random.nextInt(100) < wildness) {
            return WILD[random.nextInt(WILD.length)];
        }
        return low + random.nextInt(Math.max(1, high - low + 1));
    }

    private int unit() {
        return pick(0, y.count(0) - 1);
    }

    private int day() {
        return pick(0, lastDay);
    }

    private int year() {
        return pick(0, lastDay / 365);
    }

    private int row() {
        return pick(0, y.count(1) - 1);
    }

    private int version() {
        return random.nextInt(3) == 0 ? NONE : pick(0, y.count(2) - 1);
    }

    private int serial() {
        return pick(1, y.count(3));
    }

    private int hundredths() {
        int roll = random.nextInt(4);
        return roll == 0 ? 0 : roll == 1 ? 100 : pick(0, 100);
    }

    private boolean coin() {
        return random.nextBoolean();
    }

    private void unitsStep() {
        int a = unit();
        int b = unit();
        int d = day();
        int e = day();
        int what = pick(0, 5);
        switch (random.nextInt(8)) {
            case 0: Due.is("unit", x.unit(), y.unit()); break;
            case 1: Due.is("holds", x.holds(a, b, d), y.holds(a, b, d)); break;
            case 2: Due.is("share", x.share(a, d), y.share(a, d)); break;
            case 3: Due.is("days", x.days(a, d, e), y.days(a, d, e)); break;
            case 4: Due.is("count", x.count(what), y.count(what)); break;
            default: tellHolding(); break;
        }
    }

    private void tellHolding() {
        int a = unit();
        int b = unit();
        int h = hundredths();
        int d = day();
        Due.is("hold", x.hold(a, b, h, d), y.hold(a, b, h, d));
    }

    private void rowsStep() {
        switch (random.nextInt(3)) {
            case 0: tellStep(); break;
            case 1: askStep(); break;
            default: totalStep(); break;
        }
    }

    private void tellStep() {
        if (coin()) {
            tellRow();
        } else {
            tellFactor();
        }
    }

    private void tellRow() {
        int u = unit();
        int k = pick(0, 3);
        int amount = coin() ? pick(1, 20) : pick(1, 100000);
        int d = day();
        int seller = coin() ? NONE : unit();
        Due.is("row", x.row(u, k, amount, d, seller), y.row(u, k, amount, d, seller));
    }

    private void tellFactor() {
        int k = pick(0, 3);
        int year = year();
        int low = coin() ? pick(0, 3) : pick(0, 1000);
        int high = coin() ? low : pick(low, 1000);
        Due.is("factor", x.factor(k, year, low, high), y.factor(k, year, low, high));
    }

    private void askStep() {
        int r = row();
        int what = pick(0, 6);
        int year = year();
        int one = version();
        int two = version();
        boolean market = coin();
        boolean high = coin();
        switch (random.nextInt(5)) {
            case 0: Due.is("told", x.told(r, what), y.told(r, what)); break;
            case 1: Due.is("factorAs", x.factorAs(what, year, one, high), y.factorAs(what, year, one, high)); break;
            case 2: Due.is("tons", x.tons(r, one, market, high), y.tons(r, one, market, high)); break;
            case 3: Due.is("changed", x.changed(year, one, two), y.changed(year, one, two)); break;
            default: Due.is("change", x.change(what, year, one, two), y.change(what, year, one, two)); break;
        }
    }

    private void totalStep() {
        int u = unit();
        int year = year();
        int d = day();
        int as = version();
        boolean market = coin();
        boolean once = coin();
        boolean high = coin();
        switch (random.nextInt(5)) {
            case 0:
                Due.is("total", x.total(year, as, market, once, high), y.total(year, as, market, once, high));
                break;
            case 1:
                Due.is("anew", x.anew(year, d, as, market, once, high), y.anew(year, d, as, market, once, high));
                break;
            case 2:
                Due.is("part", x.part(u, year, as, market, once, high), y.part(u, year, as, market, once, high));
                break;
            case 3:
                Due.is("doubles", x.doubles(year), y.doubles(year));
                break;
            default:
                int base = pick(0, 3);
                int end = pick(base, 9);
                int less = pick(0, 100);
                Due.is("onPath", x.onPath(year, base, end, less), y.onPath(year, base, end, less));
                break;
        }
    }

    private void certificatesStep() {
        int u = unit();
        int n = pick(1, longest);
        int from = serial();
        int r = row();
        int what = pick(0, 4);
        switch (random.nextInt(10)) {
            case 0: Due.is("issue", x.issue(u, n), y.issue(u, n)); break;
            case 1: Due.is("move", x.move(from, n, u), y.move(from, n, u)); break;
            case 2: Due.is("use", x.use(from, n, r), y.use(from, n, r)); break;
            case 3: useRowsOwn(from, r); break;
            case 4: Due.is("owner", x.owner(from), y.owner(from)); break;
            case 5: Due.is("usedFor", x.usedFor(from), y.usedFor(from)); break;
            case 6: Due.is("free", x.free(u), y.free(u)); break;
            case 7: Due.is("runs", x.runs(), y.runs()); break;
            case 8:
                int i = pick(0, y.runs());
                Due.is("run", x.run(i, what), y.run(i, what));
                break;
            default:
                int seller = NONE;
                Due.is("row", x.row(u, 1, n, what, seller), y.row(u, 1, n, what, seller));
                break;
        }
    }

    /** Chance alone seldom finds serials of just the row's unit. */
    private void useRowsOwn(int from, int row) {
        int owner = y.told(row, 0);
        int n = 1 + random.nextInt(3);
        Due.is("move", x.move(from, n, owner), y.move(from, n, owner));
        Due.is("use", x.use(from, n, row), y.use(from, n, row));
    }
}
