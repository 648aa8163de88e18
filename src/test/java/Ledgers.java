/** Ledgers with which tests begin. */
final class Ledgers {
    private Ledgers() {
    }

    static SmokeLedger withUnits(int n) {
        SmokeLedger x = new SmokeLedger();
        for (int i = 1; i < n; i++) {
            Due.is("unit()", x.unit(), i);
        }
        return x;
    }

    /** Ten units: the group has 25 wholes of unit 9, by all the chains that three holdings allow. */
    static SmokeLedger withBigShare() {
        SmokeLedger x = withUnits(10);
        for (int unit = 1; unit <= 9; unit++) {
            Due.is("at first hand", x.hold(0, unit, 100, 0), 0);
        }
        for (int a = 1; a <= 4; a++) {
            for (int b = 5; b <= 9; b++) {
                Due.is("by the first four", x.hold(a, b, 100, 0), 0);
            }
        }
        for (int b = 5; b <= 8; b++) {
            Due.is("by the second four", x.hold(b, 9, 100, 0), 0);
        }
        return x;
    }
}
