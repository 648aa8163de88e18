/** The boundary cases of the promises 14 to 18, a test for each sentence: total, anew, part, doubles, onPath. */
public final class TotalEdgesTest {
    private static final int UNKNOWN = -1, BAD = -2, NONE = -9;
    private static final int LEAST = Integer.MIN_VALUE, MOST = Integer.MAX_VALUE;
    private static final int FUEL = 0, POWER = 1, GOODS = 2;
    private static final long WHOLE = 1000000;

    public static void main(String[] args) throws IllegalAccessException {
        Sentences.runAll(TotalEdgesTest.class);
    }

    // ---- promise 14, total

    @Says(promise = 14, words = "BAD: year")
    static void totalYear() {
        SmokeLedger x = oneRowInEachYear();
        for (int year : new int[] {-1, 10, NONE, LEAST, MOST}) {
            Due.is("year " + year, x.total(year, NONE, false, false, false), BAD);
        }
        Due.is("the first", x.total(0, NONE, false, false, false), WHOLE);
        Due.is("the last", x.total(9, NONE, false, false, false), 10 * WHOLE);
    }

    @Says(promise = 14, words = "UNKNOWN: as")
    static void totalAsOfNoVersion() {
        SmokeLedger x = oneRowInEachYear();
        for (int as : new int[] {-1, -8, -10, 2, 80, LEAST, MOST}) {
            Due.is("as of " + as, x.total(0, as, false, false, false), UNKNOWN);
        }
        Due.is("the first", x.total(0, 0, false, false, false), 3 * WHOLE);
        Due.is("the last", x.total(0, 1, false, false, false), WHOLE);
        Due.is("all", x.total(0, NONE, false, false, false), WHOLE);
        Due.is("of a new object", new SmokeLedger().total(0, 0, false, false, false), UNKNOWN);
    }

    @Says(promise = 14, words = "Of several what is told first.")
    static void totalOrderOfRefusals() {
        SmokeLedger x = oneRowInEachYear();
        Due.is("year, and as", x.total(10, 2, false, false, false), BAD);
        Due.is("year, and as", x.total(-1, -1, false, false, false), BAD);
    }

    @Says(promise = 14, words = "It is NONE, if a FACTOR LACKS for a ROW whose SHARE (so taken) is above 0")
    static void totalThatLacks() {
        SmokeLedger x = Ledgers.withUnits(4);
        x.hold(0, 1, 1, 5);
        x.hold(1, 2, 1, 0);
        x.hold(2, 3, 1, 0);
        x.row(3, FUEL, 1, 4, NONE);
        Due.is("the day before there is a share", x.total(0, NONE, false, false, false), 0);
        x.row(3, FUEL, 1, 5, NONE);
        Due.is("by a share of a millionth", x.total(0, NONE, false, false, false), NONE);
        Due.is("of the next year", x.total(1, NONE, false, false, false), 0);
        x.factor(FUEL, 0, 0, 0);
        Due.is("0 does not lack", x.total(0, NONE, false, false, false), 0);
    }

    @Says(promise = 14, words = "It is NONE, if a FACTOR LACKS")
    static void totalOfManyOfWhichOneLacks() {
        SmokeLedger x = new SmokeLedger();
        x.factor(FUEL, 0, 1, 1);
        x.row(0, FUEL, 1, 0, NONE);
        x.row(0, FUEL, 1, 364, NONE);
        Due.is("none lacks", x.total(0, NONE, false, false, false), 2 * WHOLE);
        x.row(0, GOODS, 1, 364, NONE);
        Due.is("one lacks", x.total(0, NONE, false, false, false), NONE);
        x.factor(GOODS, 0, 1, 1);
        Due.is("none any more", x.total(0, NONE, false, false, false), 3 * WHOLE);
        Due.is("as of the version before", x.total(0, 0, false, false, false), NONE);
    }

    @Says(promise = 14, words = "and that is not left out")
    static void totalWithoutADoubleThatLacks() {
        SmokeLedger x = Ledgers.withUnits(2);
        x.row(0, FUEL, 1, 0, 1);
        Due.is("not double: it counts", x.total(0, NONE, false, true, false), NONE);
        x.hold(0, 1, 1, 0);
        Due.is("once: left out", x.total(0, NONE, false, true, false), 0);
        Due.is("not once", x.total(0, NONE, false, false, false), NONE);
    }

    @Says(promise = 14, words = "(once: that are not DOUBLE)")
    static void totalOnce() {
        SmokeLedger x = Ledgers.withUnits(3);
        x.factor(FUEL, 0, 1, 1);
        x.hold(0, 1, 1, 10);
        x.row(0, FUEL, 1, 9, 1);
        x.row(0, FUEL, 2, 10, 1);
        x.row(0, FUEL, 4, 10, 2);
        x.row(0, FUEL, 8, 10, NONE);
        Due.is("all", x.total(0, NONE, false, false, false), 15 * WHOLE);
        Due.is("once: from day 10 on", x.total(0, NONE, false, true, false), 13 * WHOLE);
    }

    @Says(promise = 14, words = "over its ROWS")
    static void totalOfNoRows() {
        SmokeLedger x = new SmokeLedger();
        Due.is("nothing at all", x.total(0, NONE, true, true, true), 0);
        x.row(0, FUEL, 1, 365, NONE);
        Due.is("of the year before", x.total(0, NONE, false, false, false), 0);
        Due.is("of its year", x.total(1, NONE, false, false, false), NONE);
        Due.is("of the year behind", x.total(2, NONE, false, false, false), 0);
    }

    @Says(promise = 14, words = "YEARS are DAYS by 365, cut (0 .. 9).")
    static void totalByTheYearsFirstAndLastDays() {
        SmokeLedger x = new SmokeLedger();
        x.factor(FUEL, 0, 1, 1);
        for (int year = 0; year < 10; year++) {
            x.row(0, FUEL, 1 + year, 365 * year, NONE);
            x.row(0, FUEL, 100, 365 * year + 364, NONE);
        }
        for (int year = 0; year < 10; year++) {
            Due.is("year " + year, x.total(year, NONE, false, false, false), (101 + year) * WHOLE);
        }
    }

    @Says(promise = 14, words = "times the SHARE of the UNIT on the ROW's DAY")
    static void totalByTheDaysOfItsRows() {
        SmokeLedger x = Ledgers.withUnits(2);
        x.factor(FUEL, 0, 1, 1);
        x.hold(0, 1, 10, 100);
        x.hold(0, 1, 70, 101);
        x.hold(0, 1, 0, 102);
        for (int day = 99; day <= 102; day++) {
            x.row(1, FUEL, 1, day, NONE);
        }
        Due.is("0 and 10 and 70 and 0", x.total(0, NONE, false, false, false), 800000);
    }

    @Says(promise = 14, words = "Numbers told as longs may be beyond ints.")
    static void totalBeyondInts() {
        SmokeLedger x = new SmokeLedger();
        x.factor(FUEL, 0, 1, 1);
        x.row(0, FUEL, 2147, 0, NONE);
        Due.is("the last within ints", x.total(0, NONE, false, false, false), 2147000000L);
        x.row(0, FUEL, 1, 0, NONE);
        Due.is("the first beyond", x.total(0, NONE, false, false, false), 2148000000L);
        Due.is("a very big one", Ledgers.withBigTotals().total(0, NONE, true, true, true), 250000000000000000L);
    }

    @Says(promise = 14, words = "Numbers told as longs may be beyond ints.")
    static void totalOfTheMostThereCanBe() {
        SmokeLedger x = Ledgers.withBigShare();
        x.factor(FUEL, 0, 1000, 1000);
        for (int i = 0; i < 200; i++) {
            x.row(9, FUEL, 100000, i, NONE);
        }
        Due.is("200 rows", x.total(0, NONE, false, false, false), 500000000000000000L);
    }

    @Says(promise = 14, words = "by the way of CERTIFICATES (market)")
    static void totalByMarketFromNothingToAll() {
        SmokeLedger x = new SmokeLedger();
        x.factor(POWER, 0, 2, 3);
        x.row(0, POWER, 5, 0, NONE);
        x.issue(0, 5);
        Due.is("nothing covered", x.total(0, NONE, true, false, true), 15 * WHOLE);
        x.use(1, 4, 0);
        Due.is("all but one", x.total(0, NONE, true, false, true), 3 * WHOLE);
        x.use(5, 1, 0);
        Due.is("all", x.total(0, NONE, true, false, true), 0);
        Due.is("not by market", x.total(0, NONE, false, false, true), 15 * WHOLE);
    }

    // ---- promise 15, anew

    @Says(promise = 15, words = "BAD: year")
    static void anewYear() {
        SmokeLedger x = oneRowInEachYear();
        for (int year : new int[] {-1, 10, NONE, LEAST, MOST}) {
            Due.is("year " + year, x.anew(year, 0, NONE, false, false, false), BAD);
        }
        Due.is("the first", x.anew(0, 0, NONE, false, false, false), WHOLE);
        Due.is("the last", x.anew(9, 0, NONE, false, false, false), 10 * WHOLE);
    }

    @Says(promise = 15, words = "BAD: year, day")
    static void anewDay() {
        SmokeLedger x = Ledgers.withUnits(2);
        x.factor(FUEL, 0, 1, 1);
        x.row(1, FUEL, 1, 400, NONE);
        x.hold(0, 1, 10, 0);
        x.hold(0, 1, 20, 1);
        x.hold(0, 1, 30, 3649);
        for (int day : new int[] {-1, 3650, NONE, LEAST, MOST}) {
            Due.is("day " + day, x.anew(1, day, NONE, false, false, false), BAD);
        }
        Due.is("the first", x.anew(1, 0, NONE, false, false, false), 100000);
        Due.is("the second", x.anew(1, 1, NONE, false, false, false), 200000);
        Due.is("the last but one", x.anew(1, 3648, NONE, false, false, false), 200000);
        Due.is("the last", x.anew(1, 3649, NONE, false, false, false), 300000);
    }

    @Says(promise = 15, words = "UNKNOWN: as")
    static void anewAsOfNoVersion() {
        SmokeLedger x = oneRowInEachYear();
        for (int as : new int[] {-1, -8, -10, 2, 80, LEAST, MOST}) {
            Due.is("as of " + as, x.anew(0, 0, as, false, false, false), UNKNOWN);
        }
        Due.is("the first", x.anew(0, 0, 0, false, false, false), 3 * WHOLE);
        Due.is("the last", x.anew(0, 0, 1, false, false, false), WHOLE);
        Due.is("all", x.anew(0, 0, NONE, false, false, false), WHOLE);
    }

    @Says(promise = 15, words = "Of several what is told first.")
    static void anewOrderOfRefusals() {
        SmokeLedger x = oneRowInEachYear();
        Due.is("year, and as", x.anew(10, 0, 2, false, false, false), BAD);
        Due.is("day, and as", x.anew(0, 3650, 2, false, false, false), BAD);
        Due.is("day, and as", x.anew(0, -1, -1, false, false, false), BAD);
    }

    @Says(promise = 15, words = "NONE")
    static void anewThatLacks() {
        SmokeLedger x = Ledgers.withUnits(2);
        x.row(1, FUEL, 1, 50, NONE);
        x.hold(0, 1, 1, 10);
        x.hold(0, 1, 0, 20);
        Due.is("by its own day", x.total(0, NONE, false, false, false), 0);
        Due.is("the day before there is a share", x.anew(0, 9, NONE, false, false, false), 0);
        Due.is("the first day of it", x.anew(0, 10, NONE, false, false, false), NONE);
        Due.is("the last day of it", x.anew(0, 19, NONE, false, false, false), NONE);
        Due.is("the day behind", x.anew(0, 20, NONE, false, false, false), 0);
        Due.is("of another year", x.anew(1, 10, NONE, false, false, false), 0);
        x.factor(FUEL, 0, 0, 0);
        Due.is("0 does not lack", x.anew(0, 10, NONE, false, false, false), 0);
    }

    @Says(promise = 15, words = "(which ROWS are DOUBLE: by that DAY, too)")
    static void anewOnce() {
        SmokeLedger x = Ledgers.withUnits(2);
        x.factor(FUEL, 0, 1, 1);
        x.row(0, FUEL, 1, 50, 1);
        x.hold(0, 1, 1, 100);
        x.hold(0, 1, 0, 200);
        Due.is("by its own day", x.total(0, NONE, false, true, false), WHOLE);
        Due.is("the day before it is double", x.anew(0, 99, NONE, false, true, false), WHOLE);
        Due.is("the first day", x.anew(0, 100, NONE, false, true, false), 0);
        Due.is("the last day", x.anew(0, 199, NONE, false, true, false), 0);
        Due.is("the day behind", x.anew(0, 200, NONE, false, true, false), WHOLE);
        Due.is("not once", x.anew(0, 100, NONE, false, false, false), WHOLE);
    }

    @Says(promise = 15, words = "and that is not left out")
    static void anewWithoutADoubleThatLacks() {
        SmokeLedger x = Ledgers.withUnits(2);
        x.row(0, FUEL, 1, 50, 1);
        x.hold(0, 1, 1, 100);
        Due.is("not double on that day", x.anew(0, 99, NONE, false, true, false), NONE);
        Due.is("double on that day", x.anew(0, 100, NONE, false, true, false), 0);
        Due.is("not once", x.anew(0, 100, NONE, false, false, false), NONE);
    }

    @Says(promise = 15, words = "by the SHARES of one DAY")
    static void anewByTheYearOfItsRows() {
        SmokeLedger x = Ledgers.withUnits(2);
        x.hold(0, 1, 1, 365);
        x.factor(FUEL, 0, 1, 1);
        x.factor(FUEL, 1, 50, 50);
        x.row(1, FUEL, 1, 364, NONE);
        Due.is("by the last day of its year", x.anew(0, 364, NONE, false, false, false), 0);
        Due.is("by the first day of the next, by its own factor", x.anew(0, 365, NONE, false, false, false), 10000);
        Due.is("the next year has no rows", x.anew(1, 365, NONE, false, false, false), 0);
    }

    @Says(promise = 15, words = "Numbers told as longs may be beyond ints.")
    static void anewBeyondInts() {
        SmokeLedger x = new SmokeLedger();
        x.factor(FUEL, 0, 1, 1);
        x.row(0, FUEL, 2147, 0, NONE);
        Due.is("the last within ints", x.anew(0, 3649, NONE, false, false, false), 2147000000L);
        x.row(0, FUEL, 1, 0, NONE);
        Due.is("the first beyond", x.anew(0, 3649, NONE, false, false, false), 2148000000L);
        Due.is("a very big one", Ledgers.withBigTotals().anew(1, 0, NONE, true, true, true), 250000000000000000L);
    }

    // ---- promise 16, part

    @Says(promise = 16, words = "UNKNOWN: unit")
    static void partOfNoUnit() {
        SmokeLedger x = oneRowInEachYear();
        for (int unit : new int[] {-1, 2, NONE, 10, LEAST, MOST}) {
            Due.is("unit " + unit, x.part(unit, 0, NONE, false, false, false), UNKNOWN);
        }
        Due.is("the first", x.part(0, 0, NONE, false, false, false), WHOLE);
        Due.is("the last", x.part(1, 0, NONE, false, false, false), 0);
    }

    @Says(promise = 16, words = "BAD: year")
    static void partYear() {
        SmokeLedger x = oneRowInEachYear();
        for (int year : new int[] {-1, 10, NONE, LEAST, MOST}) {
            Due.is("year " + year, x.part(0, year, NONE, false, false, false), BAD);
        }
        Due.is("the first", x.part(0, 0, NONE, false, false, false), WHOLE);
        Due.is("the last", x.part(0, 9, NONE, false, false, false), 10 * WHOLE);
    }

    @Says(promise = 16, words = "UNKNOWN: as")
    static void partAsOfNoVersion() {
        SmokeLedger x = oneRowInEachYear();
        for (int as : new int[] {-1, -8, -10, 2, 80, LEAST, MOST}) {
            Due.is("as of " + as, x.part(0, 0, as, false, false, false), UNKNOWN);
        }
        Due.is("the first", x.part(0, 0, 0, false, false, false), 3 * WHOLE);
        Due.is("the last", x.part(0, 0, 1, false, false, false), WHOLE);
        Due.is("all", x.part(0, 0, NONE, false, false, false), WHOLE);
    }

    @Says(promise = 16, words = "Of several what is told first.")
    static void partOrderOfRefusals() {
        SmokeLedger x = oneRowInEachYear();
        Due.is("unit, and year", x.part(2, 10, NONE, false, false, false), UNKNOWN);
        Due.is("unit, and year, and as", x.part(-1, -1, 2, false, false, false), UNKNOWN);
        Due.is("year, and as", x.part(0, 10, 2, false, false, false), BAD);
        Due.is("year, and as", x.part(0, -1, -1, false, false, false), BAD);
    }

    @Says(promise = 16, words = "NONE: as of its own ROWS.")
    static void partThatLacks() {
        SmokeLedger x = Ledgers.withUnits(3);
        x.hold(0, 1, 1, 0);
        x.factor(FUEL, 0, 1, 1);
        x.row(0, FUEL, 1, 0, NONE);
        x.row(1, GOODS, 1, 0, NONE);
        x.row(2, GOODS, 1, 0, NONE);
        Due.is("of the total", x.total(0, NONE, false, false, false), NONE);
        Due.is("of one that does not lack", x.part(0, 0, NONE, false, false, false), WHOLE);
        Due.is("of the one that lacks", x.part(1, 0, NONE, false, false, false), NONE);
        Due.is("of one that lacks, without a share", x.part(2, 0, NONE, false, false, false), 0);
        Due.is("of another year", x.part(1, 1, NONE, false, false, false), 0);
    }

    @Says(promise = 16, words = "and that is not left out")
    static void partWithoutADoubleThatLacks() {
        SmokeLedger x = Ledgers.withUnits(2);
        x.hold(0, 1, 1, 10);
        x.row(1, FUEL, 1, 10, 0);
        Due.is("once: left out", x.part(1, 0, NONE, false, true, false), 0);
        Due.is("not once", x.part(1, 0, NONE, false, false, false), NONE);
    }

    @Says(promise = 16, words = "(of its own ROWS alone)")
    static void partOfItsOwnRows() {
        SmokeLedger x = Ledgers.withUnits(4);
        x.hold(0, 1, 50, 0);
        x.hold(1, 2, 50, 0);
        x.factor(FUEL, 0, 1, 1);
        x.row(0, FUEL, 1, 0, 1);
        x.row(1, FUEL, 10, 0, NONE);
        x.row(2, FUEL, 100, 0, NONE);
        Due.is("not of what it sells", x.part(1, 0, NONE, false, false, false), 10 * 500000L);
        Due.is("not of what it holds", x.part(0, 0, NONE, false, false, false), WHOLE);
        Due.is("held through another", x.part(2, 0, NONE, false, false, false), 100 * 250000L);
        Due.is("without rows", x.part(3, 0, NONE, false, false, false), 0);
    }

    @Says(promise = 16, words = "by the SHARES of each ROW's DAY")
    static void partByTheDaysOfItsRows() {
        SmokeLedger x = Ledgers.withUnits(2);
        x.factor(FUEL, 0, 1, 1);
        x.hold(0, 1, 10, 100);
        x.hold(0, 1, 70, 101);
        x.row(1, FUEL, 1, 99, NONE);
        x.row(1, FUEL, 1, 100, NONE);
        x.row(1, FUEL, 1, 101, NONE);
        Due.is("0 and 10 and 70", x.part(1, 0, NONE, false, false, false), 800000);
    }

    @Says(promise = 16, words = "Numbers told as longs may be beyond ints.")
    static void partBeyondInts() {
        SmokeLedger x = new SmokeLedger();
        x.factor(FUEL, 0, 1, 1);
        x.row(0, FUEL, 2147, 0, NONE);
        Due.is("the last within ints", x.part(0, 0, NONE, false, false, false), 2147000000L);
        x.row(0, FUEL, 1, 0, NONE);
        Due.is("the first beyond", x.part(0, 0, NONE, false, false, false), 2148000000L);
        Due.is("a very big one", Ledgers.withBigTotals().part(9, 1, NONE, true, true, true), 250000000000000000L);
    }

    // ---- promise 17, doubles

    @Says(promise = 17, words = "BAD.")
    static void doublesYear() {
        SmokeLedger x = Ledgers.withUnits(2);
        x.hold(0, 1, 1, 0);
        x.row(0, FUEL, 1, 0, 1);
        x.row(0, FUEL, 1, 3649, 1);
        x.row(1, FUEL, 1, 3649, 0);
        for (int year : new int[] {-1, 10, NONE, LEAST, MOST}) {
            Due.is("year " + year, x.doubles(year), BAD);
        }
        Due.is("the first", x.doubles(0), 1);
        Due.is("the last", x.doubles(9), 2);
    }

    @Says(promise = 17, words = "How many ROWS of a YEAR are DOUBLE.")
    static void doublesFromNoneToAll() {
        SmokeLedger x = Ledgers.withUnits(2);
        Due.is("no rows", x.doubles(0), 0);
        for (int i = 0; i < 200; i++) {
            x.row(i % 2, FUEL, 1, i, 1 - i % 2);
        }
        Due.is("no shares", x.doubles(0), 0);
        x.hold(0, 1, 1, 199);
        Due.is("on the last day", x.doubles(0), 1);
        x.hold(0, 1, 1, 0);
        Due.is("all", x.doubles(0), 200);
        Due.is("of the next year", x.doubles(1), 0);
    }

    @Says(promise = 17, words = "ROWS of a YEAR")
    static void doublesByTheYearsFirstAndLastDays() {
        SmokeLedger x = Ledgers.withUnits(2);
        x.hold(0, 1, 1, 0);
        x.row(0, FUEL, 1, 364, 1);
        x.row(0, FUEL, 1, 365, 1);
        x.row(0, FUEL, 1, 729, 1);
        x.row(0, FUEL, 1, 730, 1);
        Due.is("year 0", x.doubles(0), 1);
        Due.is("year 1", x.doubles(1), 2);
        Due.is("year 2", x.doubles(2), 1);
    }

    @Says(promise = 17, words = "if it has a SELLER, and on its DAY the SHARES of its UNIT and of its SELLER are above 0")
    static void doublesByTheirDays() {
        SmokeLedger x = Ledgers.withUnits(3);
        x.hold(0, 1, 1, 10);
        x.row(1, FUEL, 1, 9, 0);
        Due.is("the day before its unit is held", x.doubles(0), 0);
        x.row(1, FUEL, 1, 10, 0);
        Due.is("the day", x.doubles(0), 1);
        x.row(0, FUEL, 1, 9, 1);
        Due.is("the day before its seller is held", x.doubles(0), 1);
        x.row(0, FUEL, 1, 10, 1);
        Due.is("the day", x.doubles(0), 2);
        x.row(0, FUEL, 1, 10, NONE);
        Due.is("without a seller", x.doubles(0), 2);
        x.row(0, FUEL, 1, 10, 2);
        Due.is("by one of whom nothing is held", x.doubles(0), 2);
    }

    // ---- promise 18, onPath

    @Says(promise = 18, words = "BAD: years")
    static void onPathYears() {
        SmokeLedger x = new SmokeLedger();
        for (int year : new int[] {-1, 10, NONE, LEAST, MOST}) {
            Due.is("year " + year, x.onPath(year, 0, 9, 0), BAD);
            Due.is("base " + year, x.onPath(5, year, 9, 0), BAD);
            Due.is("end " + year, x.onPath(5, 0, year, 0), BAD);
        }
        Due.is("all below", x.onPath(-2, -2, -1, 0), BAD);
        Due.is("all above", x.onPath(10, 10, 11, 0), BAD);
        Due.is("base and end at their ends", x.onPath(5, 0, 9, 0), 1);
        Due.is("year 0", x.onPath(0, 0, 9, 0), 1);
        Due.is("year 9", x.onPath(9, 0, 9, 0), 1);
        Due.is("the last base", x.onPath(9, 8, 9, 0), 1);
        Due.is("the first end", x.onPath(1, 0, 1, 0), 1);
    }

    @Says(promise = 18, words = "BAD: years, hundredths")
    static void onPathHundredths() {
        SmokeLedger x = new SmokeLedger();
        x.factor(FUEL, 0, 1, 1);
        x.row(0, FUEL, 100, 0, NONE);
        x.row(0, FUEL, 1, 365, NONE);
        for (int hundredths : new int[] {-1, 101, NONE, LEAST, MOST}) {
            Due.is("hundredths " + hundredths, x.onPath(1, 0, 1, hundredths), BAD);
        }
        Due.is("0", x.onPath(1, 0, 1, 0), 1);
        Due.is("99 leaves 1 of 100", x.onPath(1, 0, 1, 99), 1);
        Due.is("100 leaves nothing", x.onPath(1, 0, 1, 100), 0);
    }

    @Says(promise = 18, words = "or end is not above base")
    static void onPathEndNotAboveBase() {
        SmokeLedger x = new SmokeLedger();
        Due.is("end is base", x.onPath(5, 5, 5, 10), BAD);
        Due.is("end below base", x.onPath(5, 6, 5, 10), BAD);
        Due.is("end far below base", x.onPath(5, 9, 0, 10), BAD);
        Due.is("end above base", x.onPath(5, 5, 6, 10), 1);
    }

    @Says(promise = 18, words = "or year not base .. end")
    static void onPathYearNotWithin() {
        SmokeLedger x = new SmokeLedger();
        Due.is("year below base", x.onPath(2, 3, 6, 10), BAD);
        Due.is("year at base", x.onPath(3, 3, 6, 10), 1);
        Due.is("year at end", x.onPath(6, 3, 6, 10), 1);
        Due.is("year above end", x.onPath(7, 3, 6, 10), BAD);
    }

    @Says(promise = 18, words = "NONE: a TOTAL is NONE.")
    static void onPathThatLacks() {
        SmokeLedger x = new SmokeLedger();
        x.row(0, FUEL, 1, 365, NONE);
        x.row(0, GOODS, 1, 730, NONE);
        Due.is("of the year", x.onPath(1, 0, 9, 0), NONE);
        Due.is("of the base", x.onPath(3, 2, 9, 0), NONE);
        Due.is("of both", x.onPath(2, 1, 9, 0), NONE);
        Due.is("of one, year and base", x.onPath(1, 1, 9, 0), NONE);
        Due.is("of the end and a year between: they do not matter", x.onPath(3, 0, 3, 0), 1);
        x.factor(FUEL, 0, 0, 0);
        Due.is("0 does not lack", x.onPath(1, 0, 9, 0), 1);
        Due.is("of the other yet", x.onPath(2, 1, 9, 0), NONE);
    }

    @Says(promise = 18, words = "Of several what is told first.")
    static void onPathBadAheadOfNone() {
        SmokeLedger x = new SmokeLedger();
        x.row(0, FUEL, 1, 0, NONE);
        x.row(0, FUEL, 1, 365, NONE);
        Due.is("it lacks", x.onPath(1, 0, 2, 0), NONE);
        Due.is("hundredths, and it lacks", x.onPath(1, 0, 2, 101), BAD);
        Due.is("end, and it lacks", x.onPath(1, 1, 1, 0), BAD);
        Due.is("year, and it lacks", x.onPath(0, 1, 2, 0), BAD);
    }

    @Says(promise = 18, words = "at most that of a base YEAR (high)")
    static void onPathAtMost() {
        SmokeLedger x = new SmokeLedger();
        x.factor(FUEL, 0, 1, 10);
        x.factor(FUEL, 1, 5, 50);
        x.row(0, FUEL, 100, 0, NONE);
        x.row(0, FUEL, 200, 365, NONE);
        Due.is("as much: low 1000 of high 1000", x.onPath(1, 0, 2, 0), 1);
        Due.is("of itself", x.onPath(0, 0, 2, 100), 1);
        x.row(0, FUEL, 1, 729, NONE);
        Due.is("more", x.onPath(1, 0, 2, 0), 0);
    }

    @Says(promise = 18, words = "at most")
    static void onPathByAMillionth() {
        SmokeLedger x = Ledgers.withUnits(4);
        x.hold(0, 1, 1, 0);
        x.hold(1, 2, 1, 0);
        x.hold(2, 3, 1, 0);
        x.factor(FUEL, 0, 1, 1);
        x.row(0, FUEL, 1, 0, NONE);
        x.row(0, FUEL, 1, 365, NONE);
        Due.is("as much", x.onPath(1, 0, 2, 0), 1);
        x.row(3, FUEL, 1, 365, NONE);
        Due.is("a millionth more", x.onPath(1, 0, 2, 0), 0);
        x.row(3, FUEL, 1, 0, NONE);
        Due.is("as much again", x.onPath(1, 0, 2, 0), 1);
    }

    @Says(promise = 18, words = "less so many hundredths of it (0 .. 100), year less base by end less base")
    static void onPathPartOfTheWay() {
        SmokeLedger x = new SmokeLedger();
        x.factor(FUEL, 0, 1, 1);
        x.row(0, FUEL, 100, 5 * 365, NONE);
        x.row(0, FUEL, 75, 6 * 365, NONE);
        x.row(0, FUEL, 50, 7 * 365, NONE);
        Due.is("no way yet", x.onPath(5, 5, 7, 100), 1);
        Due.is("half the way of 50", x.onPath(6, 5, 7, 50), 1);
        Due.is("half the way of 51", x.onPath(6, 5, 7, 51), 0);
        Due.is("the whole way of 50", x.onPath(7, 5, 7, 50), 1);
        Due.is("the whole way of 51", x.onPath(7, 5, 7, 51), 0);
        Due.is("the whole way of all, of nothing", x.onPath(8, 5, 8, 100), 1);
    }

    @Says(promise = 18, words = "year less base by end less base")
    static void onPathByThirdsThatDoNotEnd() {
        SmokeLedger x = new SmokeLedger();
        x.factor(FUEL, 0, 1, 1);
        x.row(0, FUEL, 10000, 0, NONE);
        x.row(0, FUEL, 9966, 365, NONE);
        Due.is("9966 of 9966 and two thirds", x.onPath(1, 0, 3, 1), 1);
        x.row(0, FUEL, 1, 365, NONE);
        Due.is("9967 of 9966 and two thirds", x.onPath(1, 0, 3, 1), 0);
        Due.is("9967 of 10000", x.onPath(1, 0, 3, 0), 1);
    }

    @Says(promise = 18, words = "(as of all VERSIONS, market, once)")
    static void onPathOfAllVersions() {
        SmokeLedger x = new SmokeLedger();
        x.factor(FUEL, 0, 1, 1);
        x.row(0, FUEL, 10, 0, NONE);
        x.row(0, FUEL, 11, 365, NONE);
        Due.is("11 of 10", x.onPath(1, 0, 2, 0), 0);
        x.factor(FUEL, 1, 0, 9);
        Due.is("0 of 10", x.onPath(1, 0, 2, 0), 1);
        x.factor(FUEL, 1, 1, 9);
        Due.is("11 of 10 again", x.onPath(1, 0, 2, 0), 0);
        x.factor(FUEL, 0, 0, 2);
        Due.is("11 of 20", x.onPath(1, 0, 2, 0), 1);
    }

    @Says(promise = 18, words = "(as of all VERSIONS, market, once)")
    static void onPathByMarket() {
        SmokeLedger x = new SmokeLedger();
        x.factor(POWER, 0, 1, 1);
        x.row(0, POWER, 10, 0, NONE);
        x.row(0, POWER, 11, 365, NONE);
        x.issue(0, 2);
        Due.is("11 of 10", x.onPath(1, 0, 2, 0), 0);
        x.use(1, 1, 1);
        Due.is("10 of 10", x.onPath(1, 0, 2, 0), 1);
        x.use(2, 1, 0);
        Due.is("10 of 9", x.onPath(1, 0, 2, 0), 0);
    }

    @Says(promise = 18, words = "(as of all VERSIONS, market, once)")
    static void onPathOnce() {
        SmokeLedger x = Ledgers.withUnits(2);
        x.factor(FUEL, 0, 1, 1);
        x.row(0, FUEL, 10, 0, 1);
        x.row(0, FUEL, 9, 0, NONE);
        x.row(0, FUEL, 20, 365, 1);
        Due.is("20 of 19", x.onPath(1, 0, 2, 0), 0);
        x.hold(0, 1, 1, 365);
        Due.is("0 of 19", x.onPath(1, 0, 2, 0), 1);
        x.row(0, FUEL, 10, 365, NONE);
        Due.is("10 of 19", x.onPath(1, 0, 2, 0), 1);
        x.hold(0, 1, 1, 0);
        Due.is("10 of 9", x.onPath(1, 0, 2, 0), 0);
    }

    @Says(promise = 18, words = "Numbers told as longs may be beyond ints.")
    static void onPathBeyondInts() {
        SmokeLedger x = Ledgers.withBigTotals();
        Due.is("as much", x.onPath(1, 0, 9, 0), 1);
        Due.is("less a hundredth of it by nine", x.onPath(1, 0, 9, 1), 0);
        x.factor(FUEL, 1, 888, 888);
        Due.is("888 of 888 and eight ninths", x.onPath(1, 0, 9, 100), 1);
        x.factor(FUEL, 1, 889, 889);
        Due.is("889 of 888 and eight ninths", x.onPath(1, 0, 9, 100), 0);
    }

    /** Two units, two versions (3 and then 1), and a row of the group in each year, of 1 in year 0 to 10 in year 9. */
    private static SmokeLedger oneRowInEachYear() {
        SmokeLedger x = Ledgers.withUnits(2);
        Due.is("factor", x.factor(FUEL, 0, 3, 3), 0);
        Due.is("factor", x.factor(FUEL, 0, 1, 1), 1);
        for (int year = 0; year < 10; year++) {
            Due.is("row", x.row(0, FUEL, 1 + year, 365 * year + 36 * year, NONE), year);
        }
        return x;
    }
}
