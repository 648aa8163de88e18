/** Ledgers with which tests begin. */
final class Ledgers {
    private static final int NONE = -9;

    private Ledgers() {
    }

    static SmokeLedger withUnits(int n) {
        SmokeLedger x = new SmokeLedger();
        for (int i = 1; i < n; i++) {
            Due.is("unit()", x.unit(), i);
        }
        return x;
    }

    /** Ten units: the group has 25 wholes of unit 9, by all the chains that three holdings allow. */
    static SmokeLedger withBigShare() {
        SmokeLedger x = withUnits(10);
        for (int unit = 1; unit <= 9; unit++) {
            Due.is("at first hand", x.hold(0, unit, 100, 0), 0);
        }
        for (int a = 1; a <= 4; a++) {
            for (int b = 5; b <= 9; b++) {
                Due.is("by the first four", x.hold(a, b, 100, 0), 0);
            }
        }
        for (int b = 5; b <= 8; b++) {
            Due.is("by the second four", x.hold(b, 9, 100, 0), 0);
        }
        return x;
    }

    /** 100 rows of the largest tons and the largest share in each of the years 0 and 1. */
    static SmokeLedger withBigTotals() {
        SmokeLedger x = withBigShare();
        Due.is("factor", x.factor(0, 0, 1000, 1000), 0);
        for (int i = 0; i < 100; i++) {
            Due.is("of year 0", x.row(9, 0, 100000, i, NONE), 2 * i);
            Due.is("of year 1", x.row(9, 0, 100000, 365 + i, NONE), 2 * i + 1);
        }
        return x;
    }

    /** Three units and 100 holdings: 50 hundredths of unit 1, told for the days 0, 10, .. 990. */
    static SmokeLedger withAllHoldings() {
        SmokeLedger x = withUnits(3);
        for (int i = 0; i < 100; i++) {
            Due.is("holding", x.hold(0, 1, 50, 10 * i), i == 0 ? 0 : 50);
        }
        return x;
    }

    /** Two units and 200 rows of the group, of 1 FUEL each, on the days 0 to 199. */
    static SmokeLedger withAllRows() {
        SmokeLedger x = withUnits(2);
        for (int i = 0; i < 200; i++) {
            Due.is("row", x.row(0, 0, 1, i, NONE), i);
        }
        return x;
    }

    /** 80 versions for FUEL and year 0, from 0 to the version's number. */
    static SmokeLedger withAllVersions() {
        SmokeLedger x = new SmokeLedger();
        for (int i = 0; i < 80; i++) {
            Due.is("factor", x.factor(0, 0, 0, i), i);
        }
        return x;
    }

    /** Two units, 12000 serials of the group and 8000 of unit 1. */
    static SmokeLedger withAllSerials() {
        SmokeLedger x = withUnits(2);
        Due.is("issue", x.issue(0, 12000), 1);
        Due.is("issue", x.issue(1, 8000), 12001);
        return x;
    }

    /**
     * Some of all: five units (4 is nobody's), four rows (1 is double, 0 and 3 are of POWER), four
     * versions, 15 serials of the units 1, 0 and 2, of which 2, 3 and 4 are used for row 0.
     */
    static SmokeLedger ordinary() {
        SmokeLedger x = withUnits(5);
        Due.is("hold", x.hold(0, 1, 50, 0), 0);
        Due.is("hold", x.hold(1, 2, 50, 10), 0);
        Due.is("hold", x.hold(2, 3, 10, 100), 0);
        Due.is("hold", x.hold(0, 2, 20, 50), 0);
        Due.is("row", x.row(1, 1, 10, 5, NONE), 0);
        Due.is("row", x.row(0, 2, 7, 370, 1), 1);
        Due.is("row", x.row(2, 0, 9, 20, NONE), 2);
        Due.is("row", x.row(0, 1, 4, 0, NONE), 3);
        Due.is("factor", x.factor(1, 0, 2, 3), 0);
        Due.is("factor", x.factor(0, 0, 1, 4), 1);
        Due.is("factor", x.factor(2, 1, 5, 6), 2);
        Due.is("factor", x.factor(1, 0, 1, 5), 3);
        Due.is("issue", x.issue(1, 8), 1);
        Due.is("issue", x.issue(0, 4), 9);
        Due.is("issue", x.issue(2, 3), 13);
        Due.is("use", x.use(2, 3, 0), 3);
        return x;
    }
}
