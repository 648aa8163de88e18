/** Promises 14 to 18 by ordinary runs of calls: total, anew, part, doubles, onPath. */
public final class TotalsTest {
    private static final int NONE = -9;

    public static void main(String[] args) {
        totals();
        totalsThatLack();
        totalsOnce();
        totalsByMarket();
        anew();
        anewDoubles();
        parts();
        doubles();
        pathEdges();
        pathLowAgainstHigh();
        pathWithFractions();
        pathBeyondLongs();
        pathByMarketOnce();
        Due.finish();
    }

    private static void totals() {
        SmokeLedger x = Ledgers.withUnits(3);
        x.hold(0, 1, 50, 0);
        x.hold(0, 1, 25, 100);
        x.row(0, 0, 10, 364, NONE);
        x.row(1, 0, 20, 99, NONE);
        x.row(1, 2, 40, 100, NONE);
        x.row(2, 3, 1000, 5, NONE);
        x.row(0, 0, 7, 365, NONE);
        x.factor(0, 0, 2, 3);
        x.factor(2, 0, 5, 7);
        Due.is("low", x.total(0, NONE, false, false, false),
                20 * 1000000L + 40 * 500000L + 200 * 250000L);
        Due.is("high", x.total(0, NONE, false, false, true),
                30 * 1000000L + 60 * 500000L + 280 * 250000L);
        Due.is("year 1", x.total(1, NONE, false, false, true), 21 * 1000000L);
        Due.is("year 2", x.total(2, NONE, false, false, true), 0);
        Due.is("as of 0", x.total(0, 0, false, false, true), NONE);
        Due.is("as of 0, year 1", x.total(1, 0, false, false, true), 21 * 1000000L);
        Due.is("as of 1", x.total(0, 1, false, false, true), 130000000L);
        x.factor(0, 0, 0, 1);
        Due.is("as of 1 yet", x.total(0, 1, false, false, true), 130000000L);
        Due.is("all", x.total(0, NONE, false, false, true), 10 * 1000000L + 20 * 500000L + 280 * 250000L);
    }

    private static void totalsThatLack() {
        SmokeLedger x = Ledgers.withUnits(2);
        x.row(1, 3, 5, 10, NONE);
        Due.is("no share: does not matter", x.total(0, NONE, false, false, false), 0);
        x.hold(0, 1, 1, 11);
        Due.is("a share on another day only", x.total(0, NONE, false, false, false), 0);
        x.hold(0, 1, 1, 10);
        Due.is("a share", x.total(0, NONE, false, false, false), NONE);
        Due.is("the year before", x.total(1, NONE, false, false, false), 0);
        x.hold(0, 1, 0, 10);
        Due.is("away", x.total(0, NONE, false, false, false), 0);
    }

    private static void totalsOnce() {
        SmokeLedger x = Ledgers.withUnits(3);
        x.hold(0, 1, 10, 0);
        x.row(0, 2, 5, 10, 1);
        x.row(1, 2, 6, 10, 2);
        x.row(1, 2, 7, 10, NONE);
        Due.is("a double lacks, left out", x.part(0, 0, NONE, false, true, false), 0);
        Due.is("a double lacks, not left out", x.part(0, 0, NONE, false, false, false), NONE);
        x.factor(2, 0, 1, 2);
        Due.is("twice", x.total(0, NONE, false, false, true), 10 * 1000000L + 26 * 100000L);
        Due.is("once", x.total(0, NONE, false, true, true), 26 * 100000L);
        x.hold(0, 2, 1, 10);
        Due.is("once, the seller is the group's now", x.total(0, NONE, false, true, true), 14 * 100000L);
        Due.is("twice as ever", x.total(0, NONE, false, false, true), 10 * 1000000L + 26 * 100000L);
    }

    private static void totalsByMarket() {
        SmokeLedger x = Ledgers.withUnits(2);
        x.hold(0, 1, 50, 0);
        x.row(1, 1, 10, 0, NONE);
        x.row(1, 0, 10, 0, NONE);
        x.issue(1, 10);
        x.use(1, 4, 0);
        x.factor(0, 0, 1, 2);
        Due.is("lacks", x.total(0, NONE, true, false, true), NONE);
        x.use(5, 6, 0);
        Due.is("all covered, lacks", x.total(0, NONE, true, false, true), NONE);
        x.factor(1, 0, 3, 4);
        Due.is("market", x.total(0, NONE, true, false, true), 20 * 500000L);
        Due.is("place", x.total(0, NONE, false, false, true), 60 * 500000L);
        Due.is("part, market", x.part(1, 0, NONE, true, false, false), 10 * 500000L);
        Due.is("anew, market", x.anew(0, 5, NONE, true, false, false), 10 * 500000L);
    }

    private static void anew() {
        SmokeLedger x = Ledgers.withUnits(3);
        x.hold(0, 1, 50, 0);
        x.hold(0, 1, 100, 400);
        x.hold(0, 2, 10, 400);
        x.row(1, 0, 10, 0, NONE);
        x.row(2, 1, 10, 0, NONE);
        x.factor(0, 0, 1, 2);
        x.factor(0, 1, 50, 50);
        Due.is("by its own days", x.total(0, NONE, false, false, true), 20 * 500000L);
        Due.is("by day 399", x.anew(0, 399, NONE, false, false, true), 20 * 500000L);
        Due.is("by day 400: a factor lacks", x.anew(0, 400, NONE, false, false, true), NONE);
        x.factor(1, 0, 3, 3);
        Due.is("by day 400: the factors of the rows' year", x.anew(0, 400, NONE, false, false, true),
                20 * 1000000L + 30 * 100000L);
        Due.is("low", x.anew(0, 400, NONE, false, false, false), 10 * 1000000L + 30 * 100000L);
        Due.is("as of 0", x.anew(0, 399, 0, false, false, true), 20 * 500000L);
        Due.is("rows of another year", x.anew(1, 400, NONE, false, false, true), 0);
    }

    private static void anewDoubles() {
        SmokeLedger x = Ledgers.withUnits(3);
        x.hold(0, 1, 50, 0);
        x.hold(0, 2, 50, 100);
        x.hold(0, 1, 0, 200);
        x.row(1, 0, 10, 50, 2);
        x.row(0, 0, 1, 50, 1);
        x.factor(0, 0, 1, 1);
        Due.is("own days, once", x.total(0, NONE, false, true, true), 10 * 500000L);
        Due.is("day 50, once", x.anew(0, 50, NONE, false, true, true), 10 * 500000L);
        Due.is("day 100, once", x.anew(0, 100, NONE, false, true, true), 0);
        Due.is("day 100", x.anew(0, 100, NONE, false, false, true), 10 * 500000L + 1000000L);
        Due.is("day 200, once", x.anew(0, 200, NONE, false, true, true), 1000000L);
    }

    private static void parts() {
        SmokeLedger x = Ledgers.withUnits(3);
        x.hold(0, 1, 50, 0);
        x.hold(1, 2, 50, 0);
        x.row(0, 0, 1, 0, NONE);
        x.row(1, 0, 10, 0, NONE);
        x.row(2, 0, 100, 0, NONE);
        x.row(2, 1, 100, 0, 1);
        x.row(1, 0, 10, 370, NONE);
        x.factor(0, 0, 1, 2);
        Due.is("0", x.part(0, 0, NONE, false, false, true), 2000000L);
        Due.is("1", x.part(1, 0, NONE, false, false, true), 20 * 500000L);
        Due.is("1 low", x.part(1, 0, NONE, false, false, false), 10 * 500000L);
        Due.is("2 lacks", x.part(2, 0, NONE, false, false, true), NONE);
        Due.is("2 once", x.part(2, 0, NONE, false, true, true), 200 * 250000L);
        Due.is("all lack", x.total(0, NONE, false, false, true), NONE);
        Due.is("1 in year 1", x.part(1, 1, NONE, false, false, true), 20 * 500000L);
        x.factor(1, 0, 0, 1);
        x.factor(0, 0, 5, 5);
        Due.is("1 as of 1", x.part(1, 0, 1, false, false, true), 20 * 500000L);
        Due.is("1 as of 2", x.part(1, 0, 2, false, false, true), 50 * 500000L);
        long sum = 0;
        for (int unit = 0; unit < 3; unit++) {
            sum += x.part(unit, 0, NONE, false, false, true);
        }
        Due.is("the parts make the total", x.total(0, NONE, false, false, true), sum);
    }

    private static void doubles() {
        SmokeLedger x = Ledgers.withUnits(3);
        x.hold(0, 1, 50, 100);
        x.row(0, 0, 1, 99, 1);
        x.row(0, 0, 1, 100, 1);
        x.row(1, 0, 1, 364, 0);
        x.row(1, 0, 1, 364, 2);
        x.row(1, 0, 1, 364, NONE);
        x.row(1, 0, 1, 365, 0);
        Due.is("year 0", x.doubles(0), 2);
        Due.is("year 1", x.doubles(1), 1);
        Due.is("year 9", x.doubles(9), 0);
        x.hold(0, 2, 1, 0);
        Due.is("year 0, one held more", x.doubles(0), 3);
    }

    private static void pathEdges() {
        SmokeLedger x = new SmokeLedger();
        x.factor(0, 0, 1, 2);
        x.row(0, 0, 1000, 0, NONE);
        x.factor(0, 1, 1, 1);
        x.row(0, 0, 1500, 365, NONE);
        x.row(0, 0, 1001, 2 * 365, NONE);
        x.row(0, 0, 1, 4 * 365, NONE);
        Due.is("year 1 of 4, 50: 1750", x.onPath(1, 0, 4, 50), 1);
        Due.is("year 1 of 4, 100: 1500", x.onPath(1, 0, 4, 100), 1);
        Due.is("year 1 of 3, 75: 1500", x.onPath(1, 0, 3, 75), 1);
        Due.is("year 1 of 3, 76: less", x.onPath(1, 0, 3, 76), 0);
        Due.is("year 2 of 4, 100: 1000", x.onPath(2, 0, 4, 100), 0);
        Due.is("year 2 of 4, 99: 1010", x.onPath(2, 0, 4, 99), 1);
        Due.is("year 4 of 4, 100: 0", x.onPath(4, 0, 4, 100), 0);
        Due.is("year 4 of 4, 99: 20", x.onPath(4, 0, 4, 99), 1);
        Due.is("year 3 of 3, 100: 0 of 0", x.onPath(3, 0, 3, 100), 1);
        Due.is("its own base, low and high", x.onPath(0, 0, 9, 100), 1);
        x.row(0, 0, 600, 366, NONE);
        Due.is("2100 of 2000", x.onPath(1, 0, 9, 0), 0);
    }

    private static void pathLowAgainstHigh() {
        SmokeLedger x = new SmokeLedger();
        x.factor(0, 0, 1, 5);
        x.factor(0, 1, 5, 9);
        x.row(0, 0, 100, 0, NONE);
        x.row(0, 0, 100, 365, NONE);
        Due.is("low 500 of high 500", x.onPath(1, 0, 2, 0), 1);
        Due.is("low 500 of less", x.onPath(1, 0, 2, 1), 0);
        x.factor(0, 1, 4, 9);
        Due.is("as of all versions", x.onPath(1, 0, 2, 1), 1);
    }

    private static void pathWithFractions() {
        SmokeLedger x = Ledgers.withUnits(4);
        x.hold(0, 1, 1, 0);
        x.hold(1, 2, 1, 0);
        x.hold(2, 3, 1, 0);
        x.factor(0, 0, 1, 1);
        x.row(3, 0, 10, 0, NONE);
        x.row(3, 0, 9, 365, NONE);
        Due.is("9 of 10 less 1 of 1000", x.onPath(1, 0, 9, 9), 1);
        Due.is("9 of 10 less 10 of 90", x.onPath(1, 0, 9, 90), 1);
        Due.is("9 of 10 less 10 and a bit", x.onPath(1, 0, 9, 91), 0);
        x.row(3, 0, 1, 366, NONE);
        Due.is("10 of 10", x.onPath(1, 0, 9, 0), 1);
        Due.is("10 of 10 less a bit, not cut", x.onPath(1, 0, 9, 1), 0);
    }

    private static void pathBeyondLongs() {
        SmokeLedger x = Ledgers.withBigTotals();
        Due.is("as much", x.onPath(1, 0, 9, 0), 1);
        Due.is("a hundredth less by nine", x.onPath(1, 0, 9, 1), 0);
        Due.is("all less by nine", x.onPath(1, 0, 9, 100), 0);
        Due.is("none of all", x.onPath(2, 0, 9, 100), 1);
        x.factor(0, 1, 888, 888);
        Due.is("888 of 1000 less 111 and a bit", x.onPath(1, 0, 9, 100), 1);
        x.factor(0, 1, 889, 889);
        Due.is("889 of 1000 less 111 and a bit", x.onPath(1, 0, 9, 100), 0);
    }

    private static void pathByMarketOnce() {
        SmokeLedger x = Ledgers.withUnits(2);
        x.hold(0, 1, 100, 0);
        x.factor(1, 0, 10, 10);
        x.row(0, 1, 10, 0, NONE);
        x.row(0, 1, 12, 365, NONE);
        Due.is("120 of 100", x.onPath(1, 0, 2, 0), 0);
        x.issue(0, 20);
        x.use(1, 2, 1);
        Due.is("100 of 100", x.onPath(1, 0, 2, 0), 1);
        x.row(0, 1, 5, 366, 1);
        Due.is("a double is left out", x.onPath(1, 0, 2, 0), 1);
        x.use(3, 1, 0);
        Due.is("100 of 90", x.onPath(1, 0, 2, 0), 0);
        x.row(0, 1, 5, 3, 1);
        Due.is("a double of the base is left out", x.onPath(1, 0, 2, 0), 0);
        x.row(0, 1, 1, 3, NONE);
        Due.is("100 of 100", x.onPath(1, 0, 2, 0), 1);
    }
}
