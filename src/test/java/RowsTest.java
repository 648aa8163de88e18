/** Promises 7 to 13 by ordinary runs of calls: row, told, factor, factorAs, tons, changed, change. */
public final class RowsTest {
    private static final int NONE = -9;

    public static void main(String[] args) {
        told();
        toldDoubleByItsDay();
        factorAs();
        factorAsOfVersions();
        tons();
        tonsByMarket();
        changed();
        changedByLacking();
        Due.finish();
    }

    private static void told() {
        SmokeLedger x = Ledgers.withUnits(3);
        x.row(1, 1, 50, 400, NONE);
        x.row(2, 3, 60, 800, 1);
        int[] first = {1, 1, 50, 400, NONE, 0, 0};
        int[] second = {2, 3, 60, 800, 1, 0, 0};
        for (int what = 0; what < 7; what++) {
            Due.is("told(0, " + what + ")", x.told(0, what), first[what]);
            Due.is("told(1, " + what + ")", x.told(1, what), second[what]);
        }
        x.issue(1, 9);
        x.use(3, 4, 0);
        Due.is("covered", x.told(0, 6), 4);
        Due.is("the amount stays", x.told(0, 2), 50);
    }

    private static void toldDoubleByItsDay() {
        SmokeLedger x = Ledgers.withUnits(3);
        x.hold(0, 1, 50, 100);
        x.hold(0, 2, 50, 200);
        x.row(1, 2, 5, 150, 2);
        x.row(1, 2, 5, 200, 2);
        x.row(2, 2, 5, 200, 1);
        x.row(0, 2, 5, 99, 1);
        x.row(0, 2, 5, 100, 1);
        x.row(1, 2, 5, 99, 0);
        x.row(0, 2, 5, 100, NONE);
        int[] isDouble = {0, 1, 1, 0, 1, 0, 0};
        for (int row = 0; row < isDouble.length; row++) {
            Due.is("double, row " + row, x.told(row, 5), isDouble[row]);
        }
        x.hold(0, 2, 1, 150);
        Due.is("told later", x.told(0, 5), 1);
        x.hold(0, 2, 0, 150);
        Due.is("told instead", x.told(0, 5), 0);
    }

    private static void factorAs() {
        SmokeLedger x = new SmokeLedger();
        x.factor(2, 5, 10, 20);
        Due.is("low", x.factorAs(2, 5, NONE, false), 10);
        Due.is("high", x.factorAs(2, 5, NONE, true), 20);
        Due.is("a later year", x.factorAs(2, 9, 0, true), 20);
        Due.is("an earlier year", x.factorAs(2, 4, 0, true), NONE);
        Due.is("another kind", x.factorAs(1, 5, 0, true), NONE);
    }

    private static void factorAsOfVersions() {
        SmokeLedger x = new SmokeLedger();
        x.factor(0, 4, 1, 11);
        x.factor(0, 2, 2, 12);
        x.factor(1, 4, 3, 13);
        x.factor(0, 4, 4, 14);
        x.factor(0, 2, 5, 15);
        x.factor(0, 6, 6, 16);
        int[][] lows = {
            {NONE, 1, 1}, {2, 1, 1}, {2, 1, 1}, {2, 4, 4}, {5, 4, 4}, {5, 4, 6}};
        for (int as = 0; as < 6; as++) {
            for (int k = 0; k < 3; k++) {
                int year = 2 + 2 * k;
                Due.is("year " + year + " as of " + as, x.factorAs(0, year, as, false), lows[as][k]);
                Due.is("year " + (year + 1), x.factorAs(0, year + 1, as, false), lows[as][k]);
            }
        }
        Due.is("all", x.factorAs(0, 6, NONE, true), 16);
        Due.is("all", x.factorAs(0, 5, NONE, true), 14);
        Due.is("all", x.factorAs(0, 3, NONE, true), 15);
        Due.is("all", x.factorAs(0, 1, NONE, true), NONE);
    }

    private static void tons() {
        SmokeLedger x = Ledgers.withUnits(2);
        x.row(1, 0, 100000, 729, NONE);
        x.row(1, 0, 3, 730, NONE);
        Due.is("lacks", x.tons(0, NONE, false, false), NONE);
        x.factor(0, 2, 5, 6);
        Due.is("lacks yet", x.tons(0, NONE, false, false), NONE);
        Due.is("the first day of year 2", x.tons(1, NONE, false, false), 15);
        x.factor(0, 1, 999, 1000);
        Due.is("low", x.tons(0, NONE, false, false), 99900000);
        Due.is("high", x.tons(0, NONE, false, true), 100000000);
        Due.is("as of 0", x.tons(0, 0, false, true), NONE);
        Due.is("as of 1", x.tons(0, 1, false, true), 100000000);
        Due.is("a share does not matter", x.share(1, 729), 0);
    }

    private static void tonsByMarket() {
        SmokeLedger x = new SmokeLedger();
        x.row(0, 1, 10, 0, NONE);
        x.row(0, 0, 10, 0, NONE);
        x.issue(0, 10);
        x.use(1, 4, 0);
        Due.is("lacks by market", x.tons(0, NONE, true, false), NONE);
        x.factor(1, 0, 7, 8);
        x.factor(0, 0, 7, 8);
        Due.is("market low", x.tons(0, NONE, true, false), 42);
        Due.is("market high", x.tons(0, NONE, true, true), 48);
        Due.is("not by market", x.tons(0, NONE, false, true), 80);
        Due.is("fuel by market", x.tons(1, NONE, true, true), 80);
        x.use(5, 6, 0);
        Due.is("all covered", x.tons(0, NONE, true, true), 0);
        Due.is("not by market", x.tons(0, NONE, false, true), 80);
        SmokeLedger y = new SmokeLedger();
        y.row(0, 1, 2, 0, NONE);
        y.issue(0, 2);
        y.use(1, 2, 0);
        Due.is("all covered, and it lacks", y.tons(0, NONE, true, true), NONE);
    }

    private static void changed() {
        SmokeLedger x = new SmokeLedger();
        x.row(0, 0, 5, 0, NONE);
        x.row(0, 1, 5, 364, NONE);
        x.row(0, 0, 5, 365, NONE);
        x.row(0, 2, 5, 1, NONE);
        x.row(0, 0, 5, 2, NONE);
        x.factor(0, 0, 1, 2);
        x.factor(1, 0, 1, 2);
        x.factor(2, 0, 1, 2);
        x.factor(0, 0, 1, 3);
        x.factor(1, 0, 0, 2);
        x.factor(2, 0, 1, 2);
        Due.is("fuel's high", x.changed(0, 2, 3), 2);
        Due.is("the other way", x.changed(0, 3, 2), 2);
        Due.is("power's low", x.changed(0, 3, 4), 1);
        Due.is("goods told again, the same", x.changed(0, 4, 5), 0);
        Due.is("all", x.changed(0, 2, NONE), 3);
        Due.is("all", x.changed(0, NONE, 2), 3);
        Due.is("NONE and NONE", x.changed(0, NONE, NONE), 0);
        Due.is("year 1", x.changed(1, 2, NONE), 1);
        Due.is("year 2", x.changed(2, 2, NONE), 0);
        int[] due = {0, 1, 4, NONE};
        for (int i = 0; i < 4; i++) {
            Due.is("change " + i, x.change(i, 0, 2, NONE), due[i]);
        }
        Due.is("change of year 1", x.change(0, 1, 2, NONE), 2);
        Due.is("change -1", x.change(-1, 0, 2, NONE), NONE);
        Due.is("change far off", x.change(Integer.MAX_VALUE, 0, 2, NONE), NONE);
    }

    private static void changedByLacking() {
        SmokeLedger x = new SmokeLedger();
        x.row(0, 0, 5, 400, NONE);
        x.row(0, 3, 5, 400, NONE);
        x.row(0, 1, 5, 400, NONE);
        x.factor(3, 0, 1, 1);
        x.factor(0, 1, 0, 0);
        Due.is("lacking and 0 are not one", x.changed(1, 0, 1), 1);
        Due.is("change", x.change(0, 1, 1, 0), 0);
        x.factor(1, 2, 5, 5);
        Due.is("a later year does not matter", x.changed(1, 1, 2), 0);
        x.factor(3, 1, 1, 1);
        Due.is("a nearer year, the same", x.changed(1, 2, 3), 0);
        x.factor(1, 1, 5, 5);
        x.issue(0, 5);
        x.use(1, 5, 2);
        Due.is("not by market", x.changed(1, 3, 4), 1);
        Due.is("change", x.change(0, 1, 3, 4), 2);
    }
}
