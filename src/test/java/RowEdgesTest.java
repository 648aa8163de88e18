/** The boundary cases of the promises 7 to 13, a test for each sentence: row, told, factor, factorAs, tons, changed, change. */
public final class RowEdgesTest {
    private static final int UNKNOWN = -1, BAD = -2, STATE = -3, FULL = -4, NONE = -9;
    private static final int LEAST = Integer.MIN_VALUE, MOST = Integer.MAX_VALUE;
    private static final int FUEL = 0, POWER = 1, GOODS = 2, TRIPS = 3;

    public static void main(String[] args) throws IllegalAccessException {
        Sentences.runAll(RowEdgesTest.class);
    }

    // ---- promise 7, row

    @Says(promise = 7, words = "UNKNOWN: unit")
    static void rowOfNoUnit() {
        SmokeLedger x = Ledgers.withUnits(3);
        for (int unit : new int[] {-1, 3, NONE, 10, LEAST, MOST}) {
            Due.is("unit " + unit, x.row(unit, FUEL, 1, 0, NONE), UNKNOWN);
        }
        Due.is("the first", x.row(0, FUEL, 1, 0, NONE), 0);
        Due.is("the last", x.row(2, FUEL, 1, 0, NONE), 1);
    }

    @Says(promise = 7, words = "UNKNOWN: unit, seller")
    static void rowOfNoSeller() {
        SmokeLedger x = Ledgers.withUnits(3);
        for (int seller : new int[] {-1, -8, -10, 3, 10, LEAST, MOST}) {
            Due.is("seller " + seller, x.row(1, FUEL, 1, 0, seller), UNKNOWN);
        }
        Due.is("the first", x.row(1, FUEL, 1, 0, 0), 0);
        Due.is("the last", x.row(1, FUEL, 1, 0, 2), 1);
    }

    @Says(promise = 7, words = "a SELLER, a UNIT, or none (NONE)")
    static void rowWithoutSeller() {
        SmokeLedger x = new SmokeLedger();
        Due.is("none", x.row(0, FUEL, 1, 0, NONE), 0);
        Due.is("its seller", x.told(0, 4), NONE);
    }

    @Says(promise = 7, words = "BAD: kind")
    static void rowKind() {
        SmokeLedger x = new SmokeLedger();
        for (int kind : new int[] {-1, 4, NONE, LEAST, MOST}) {
            Due.is("kind " + kind, x.row(0, kind, 1, 0, NONE), BAD);
        }
        for (int kind = 0; kind < 4; kind++) {
            Due.is("kind " + kind, x.row(0, kind, 1, 0, NONE), kind);
            Due.is("told", x.told(kind, 1), kind);
        }
    }

    @Says(promise = 7, words = "BAD: kind, amount")
    static void rowAmount() {
        SmokeLedger x = new SmokeLedger();
        for (int amount : new int[] {0, -1, 100001, NONE, LEAST, MOST}) {
            Due.is("amount " + amount, x.row(0, FUEL, amount, 0, NONE), BAD);
        }
        Due.is("1", x.row(0, FUEL, 1, 0, NONE), 0);
        Due.is("100000", x.row(0, FUEL, 100000, 0, NONE), 1);
        Due.is("told", x.told(0, 2), 1);
        Due.is("told", x.told(1, 2), 100000);
    }

    @Says(promise = 7, words = "BAD: kind, amount, day")
    static void rowDay() {
        SmokeLedger x = new SmokeLedger();
        for (int day : new int[] {-1, 3650, NONE, LEAST, MOST}) {
            Due.is("day " + day, x.row(0, FUEL, 1, day, NONE), BAD);
        }
        Due.is("0", x.row(0, FUEL, 1, 0, NONE), 0);
        Due.is("3649", x.row(0, FUEL, 1, 3649, NONE), 1);
        Due.is("told", x.told(0, 3), 0);
        Due.is("told", x.told(1, 3), 3649);
    }

    @Says(promise = 7, words = "STATE: the SELLER is the UNIT")
    static void rowSoldByItsUnit() {
        SmokeLedger x = Ledgers.withUnits(3);
        for (int unit = 0; unit < 3; unit++) {
            Due.is("unit " + unit, x.row(unit, FUEL, 1, 0, unit), STATE);
        }
        Due.is("rows", x.count(1), 0);
        Due.is("another", x.row(2, FUEL, 1, 0, 1), 0);
    }

    @Says(promise = 7, words = "FULL: 200.")
    static void rowsAreTwoHundredAtMost() {
        SmokeLedger x = Ledgers.withUnits(2);
        for (int i = 0; i < 199; i++) {
            Due.is("row", x.row(i % 2, i % 4, i + 1, i, NONE), i);
        }
        Due.is("the two hundredth", x.row(1, TRIPS, 7, 3649, 0), 199);
        Due.is("one more", x.row(0, FUEL, 1, 0, NONE), FULL);
        Due.is("and again", x.row(0, FUEL, 1, 0, NONE), FULL);
        Due.is("rows", x.count(1), 200);
        Due.is("the last is there", x.told(199, 3), 3649);
        Due.is("one more is not", x.told(200, 3), UNKNOWN);
    }

    @Says(promise = 7, words = "Of several what is told first.")
    static void rowOrderOfRefusals() {
        SmokeLedger x = Ledgers.withAllRows();
        Due.is("unit, and all else", x.row(2, 4, 0, 3650, 2), UNKNOWN);
        Due.is("unit, and full", x.row(-1, FUEL, 1, 0, NONE), UNKNOWN);
        Due.is("seller, and kind", x.row(0, 4, 1, 0, 2), UNKNOWN);
        Due.is("seller, and amount", x.row(0, FUEL, 0, 0, -1), UNKNOWN);
        Due.is("seller, and day", x.row(0, FUEL, 1, -1, -1), UNKNOWN);
        Due.is("kind, and its own seller, and full", x.row(1, -1, 1, 0, 1), BAD);
        Due.is("amount, and its own seller, and full", x.row(1, FUEL, 100001, 0, 1), BAD);
        Due.is("day, and its own seller, and full", x.row(1, FUEL, 1, 3650, 1), BAD);
        Due.is("its own seller, and full", x.row(1, FUEL, 1, 0, 1), STATE);
        Due.is("full alone", x.row(1, FUEL, 1, 0, 0), FULL);
    }

    // ---- promise 8, told

    @Says(promise = 8, words = "UNKNOWN")
    static void toldOfNoRow() {
        SmokeLedger x = new SmokeLedger();
        Due.is("no rows yet", x.told(0, 0), UNKNOWN);
        x.row(0, FUEL, 11, 0, NONE);
        x.row(0, FUEL, 12, 0, NONE);
        for (int row : new int[] {-1, 2, NONE, 200, LEAST, MOST}) {
            Due.is("row " + row, x.told(row, 2), UNKNOWN);
        }
        Due.is("the first", x.told(0, 2), 11);
        Due.is("the last", x.told(1, 2), 12);
    }

    @Says(promise = 8, words = "BAD")
    static void toldOfNoSuchThing() {
        SmokeLedger x = Ledgers.ordinary();
        for (int what : new int[] {-1, 7, NONE, LEAST, MOST}) {
            Due.is("what " + what, x.told(0, what), BAD);
        }
        int[] due = {1, POWER, 10, 5, NONE, 0, 3};
        for (int what = 0; what < 7; what++) {
            Due.is("what " + what, x.told(0, what), due[what]);
        }
    }

    @Says(promise = 8, words = "Of several what is told first.")
    static void toldOrderOfRefusals() {
        SmokeLedger x = Ledgers.ordinary();
        Due.is("row, and what", x.told(4, 7), UNKNOWN);
        Due.is("row, and what", x.told(-1, -1), UNKNOWN);
    }

    @Says(promise = 8, words = "A ROW is DOUBLE, if it has a SELLER")
    static void toldIsNotDoubleWithoutSeller() {
        SmokeLedger x = Ledgers.withUnits(2);
        x.hold(0, 1, 100, 0);
        x.row(1, GOODS, 1, 0, NONE);
        x.row(0, GOODS, 1, 0, NONE);
        x.row(1, GOODS, 1, 0, 0);
        Due.is("none", x.told(0, 5), 0);
        Due.is("none, of the group", x.told(1, 5), 0);
        Due.is("the group", x.told(2, 5), 1);
    }

    @Says(promise = 8, words = "the SHARES of its UNIT and of its SELLER are above 0")
    static void toldIsDoubleByTheSmallestShares() {
        SmokeLedger x = Ledgers.withUnits(5);
        x.hold(0, 1, 1, 0);
        x.hold(1, 2, 1, 0);
        x.hold(2, 3, 1, 0);
        x.row(3, GOODS, 1, 0, 0);
        x.row(0, GOODS, 1, 0, 3);
        x.row(4, GOODS, 1, 0, 0);
        x.row(0, GOODS, 1, 0, 4);
        Due.is("a millionth of the unit", x.told(0, 5), 1);
        Due.is("a millionth of the seller", x.told(1, 5), 1);
        Due.is("nothing of the unit", x.told(2, 5), 0);
        Due.is("nothing of the seller", x.told(3, 5), 0);
    }

    @Says(promise = 8, words = "and on its DAY the SHARES")
    static void toldIsDoubleByItsDay() {
        SmokeLedger x = Ledgers.withUnits(3);
        x.hold(0, 1, 50, 100);
        x.hold(0, 2, 50, 200);
        x.hold(0, 1, 0, 300);
        int[] days = {99, 100, 199, 200, 299, 300, 3649};
        int[] due = {0, 0, 0, 1, 1, 0, 0};
        for (int i = 0; i < days.length; i++) {
            x.row(1, GOODS, 1, days[i], 2);
            Due.is("day " + days[i], x.told(i, 5), due[i]);
        }
        x.hold(0, 2, 1, 199);
        Due.is("held later on", x.told(2, 5), 1);
        x.hold(0, 2, 0, 199);
        Due.is("and no more", x.told(2, 5), 0);
    }

    @Says(promise = 8, words = "what is COVERED of it (6)")
    static void toldCoveredFromNothingToAll() {
        SmokeLedger x = new SmokeLedger();
        x.row(0, POWER, 3, 0, NONE);
        x.row(0, FUEL, 3, 0, NONE);
        x.issue(0, 5);
        Due.is("nothing", x.told(0, 6), 0);
        x.use(1, 1, 0);
        Due.is("one", x.told(0, 6), 1);
        x.use(4, 2, 0);
        Due.is("all", x.told(0, 6), 3);
        x.use(2, 1, 0);
        Due.is("no more than all", x.told(0, 6), 3);
        Due.is("the amount stays", x.told(0, 2), 3);
        Due.is("of another", x.told(1, 6), 0);
    }

    // ---- promise 9, factor

    @Says(promise = 9, words = "BAD: kind")
    static void factorKind() {
        SmokeLedger x = new SmokeLedger();
        for (int kind : new int[] {-1, 4, NONE, LEAST, MOST}) {
            Due.is("kind " + kind, x.factor(kind, 0, 1, 1), BAD);
        }
        for (int kind = 0; kind < 4; kind++) {
            Due.is("kind " + kind, x.factor(kind, 0, kind, 9), kind);
            Due.is("as of all", x.factorAs(kind, 0, NONE, false), kind);
        }
    }

    @Says(promise = 9, words = "BAD: kind, year")
    static void factorYear() {
        SmokeLedger x = new SmokeLedger();
        for (int year : new int[] {-1, 10, NONE, LEAST, MOST}) {
            Due.is("year " + year, x.factor(FUEL, year, 1, 1), BAD);
        }
        Due.is("9", x.factor(FUEL, 9, 5, 5), 0);
        Due.is("0", x.factor(FUEL, 0, 6, 6), 1);
        Due.is("up to year 8", x.factorAs(FUEL, 8, NONE, false), 6);
        Due.is("from year 9", x.factorAs(FUEL, 9, NONE, false), 5);
    }

    @Says(promise = 9, words = "low is not 0 .. high")
    static void factorLow() {
        SmokeLedger x = new SmokeLedger();
        for (int low : new int[] {-1, 6, NONE, 1000, LEAST, MOST}) {
            Due.is("low " + low + " of 5", x.factor(FUEL, 0, low, 5), BAD);
        }
        Due.is("0 of 5", x.factor(FUEL, 0, 0, 5), 0);
        Due.is("5 of 5", x.factor(FUEL, 0, 5, 5), 1);
        Due.is("0 of 0", x.factor(FUEL, 0, 0, 0), 2);
        Due.is("1 of 0", x.factor(FUEL, 0, 1, 0), BAD);
    }

    @Says(promise = 9, words = "low is not 0 .. high")
    static void factorHighBelow0() {
        SmokeLedger x = new SmokeLedger();
        Due.is("-1 of -1", x.factor(FUEL, 0, -1, -1), BAD);
        Due.is("0 of -1", x.factor(FUEL, 0, 0, -1), BAD);
        Due.is("least of least", x.factor(FUEL, 0, LEAST, LEAST), BAD);
        Due.is("versions", x.count(2), 0);
    }

    @Says(promise = 9, words = "high above 1000")
    static void factorHigh() {
        SmokeLedger x = new SmokeLedger();
        for (int high : new int[] {1001, MOST}) {
            Due.is("high " + high, x.factor(FUEL, 0, 0, high), BAD);
            Due.is("both " + high, x.factor(FUEL, 0, high, high), BAD);
        }
        Due.is("1000", x.factor(FUEL, 0, 0, 1000), 0);
        Due.is("both 1000", x.factor(FUEL, 0, 1000, 1000), 1);
        Due.is("as of all", x.factorAs(FUEL, 0, NONE, false), 1000);
    }

    @Says(promise = 9, words = "FULL: 80.")
    static void versionsAreEightyAtMost() {
        SmokeLedger x = new SmokeLedger();
        for (int i = 0; i < 79; i++) {
            Due.is("version", x.factor(i % 4, i % 10, i, i), i);
        }
        Due.is("the eightieth", x.factor(TRIPS, 9, 900, 901), 79);
        Due.is("one more", x.factor(FUEL, 0, 0, 0), FULL);
        Due.is("the same as one told", x.factor(TRIPS, 9, 900, 901), FULL);
        Due.is("versions", x.count(2), 80);
        Due.is("as of the last", x.factorAs(TRIPS, 9, 79, true), 901);
        Due.is("as of one more", x.factorAs(TRIPS, 9, 80, true), UNKNOWN);
    }

    @Says(promise = 9, words = "Of several what is told first.")
    static void factorOrderOfRefusals() {
        SmokeLedger x = Ledgers.withAllVersions();
        Due.is("kind, and full", x.factor(4, 0, 0, 0), BAD);
        Due.is("year, and full", x.factor(FUEL, 10, 0, 0), BAD);
        Due.is("low, and full", x.factor(FUEL, 0, 1, 0), BAD);
        Due.is("high, and full", x.factor(FUEL, 0, 0, 1001), BAD);
        Due.is("full alone", x.factor(FUEL, 0, 0, 0), FULL);
    }

    // ---- promise 10, factorAs

    @Says(promise = 10, words = "UNKNOWN: as")
    static void factorAsOfNoVersion() {
        SmokeLedger x = new SmokeLedger();
        Due.is("no versions yet", x.factorAs(FUEL, 0, 0, false), UNKNOWN);
        x.factor(FUEL, 0, 1, 2);
        x.factor(FUEL, 0, 3, 4);
        for (int as : new int[] {-1, -8, -10, 2, 80, LEAST, MOST}) {
            Due.is("as of " + as, x.factorAs(FUEL, 0, as, false), UNKNOWN);
        }
        Due.is("the first", x.factorAs(FUEL, 0, 0, false), 1);
        Due.is("the last", x.factorAs(FUEL, 0, 1, false), 3);
    }

    @Says(promise = 10, words = "VERSION (NONE is one, where it is told as of)")
    static void factorAsOfAll() {
        SmokeLedger x = new SmokeLedger();
        Due.is("of none", x.factorAs(FUEL, 0, NONE, false), NONE);
        x.factor(FUEL, 0, 1, 2);
        Due.is("of one", x.factorAs(FUEL, 0, NONE, false), 1);
        x.factor(FUEL, 0, 3, 4);
        Due.is("of two", x.factorAs(FUEL, 0, NONE, false), 3);
    }

    @Says(promise = 10, words = "BAD: kind")
    static void factorAsKind() {
        SmokeLedger x = new SmokeLedger();
        x.factor(FUEL, 0, 1, 2);
        x.factor(TRIPS, 0, 3, 4);
        for (int kind : new int[] {-1, 4, NONE, LEAST, MOST}) {
            Due.is("kind " + kind, x.factorAs(kind, 0, NONE, true), BAD);
        }
        Due.is("the first", x.factorAs(FUEL, 0, NONE, true), 2);
        Due.is("the last", x.factorAs(TRIPS, 0, NONE, true), 4);
    }

    @Says(promise = 10, words = "BAD: kind, year")
    static void factorAsYear() {
        SmokeLedger x = new SmokeLedger();
        x.factor(FUEL, 0, 1, 2);
        for (int year : new int[] {-1, 10, NONE, LEAST, MOST}) {
            Due.is("year " + year, x.factorAs(FUEL, year, NONE, true), BAD);
        }
        Due.is("the first", x.factorAs(FUEL, 0, NONE, true), 2);
        Due.is("the last", x.factorAs(FUEL, 9, NONE, true), 2);
    }

    @Says(promise = 10, words = "Of several what is told first.")
    static void factorAsOrderOfRefusals() {
        SmokeLedger x = new SmokeLedger();
        Due.is("as, and kind", x.factorAs(4, 0, 0, true), UNKNOWN);
        Due.is("as, and year", x.factorAs(0, 10, -1, true), UNKNOWN);
        Due.is("kind, and it lacks", x.factorAs(4, 0, NONE, true), BAD);
        Due.is("year, and it lacks", x.factorAs(0, 10, NONE, true), BAD);
    }

    @Says(promise = 10, words = "NONE: it LACKS.")
    static void factorAsLacks() {
        SmokeLedger x = new SmokeLedger();
        x.factor(GOODS, 5, 1, 2);
        x.factor(GOODS, 4, 0, 0);
        Due.is("of its kind and year", x.factorAs(GOODS, 5, 0, true), 2);
        Due.is("of another kind", x.factorAs(POWER, 5, 0, true), NONE);
        Due.is("of the year before", x.factorAs(GOODS, 4, 0, true), NONE);
        Due.is("0 does not lack", x.factorAs(GOODS, 4, 1, true), 0);
        Due.is("of the year before", x.factorAs(GOODS, 3, NONE, true), NONE);
    }

    @Says(promise = 10, words = "the latest VERSION up to v")
    static void factorAsOfTheLatestVersion() {
        SmokeLedger x = new SmokeLedger();
        x.factor(FUEL, 0, 5, 15);
        x.factor(POWER, 0, 6, 16);
        x.factor(FUEL, 0, 4, 14);
        Due.is("the version itself", x.factorAs(FUEL, 0, 0, false), 5);
        Due.is("the one behind is of another kind", x.factorAs(FUEL, 0, 1, false), 5);
        Due.is("the one behind", x.factorAs(FUEL, 0, 2, false), 4);
        Due.is("high", x.factorAs(FUEL, 0, 1, true), 15);
        Due.is("all", x.factorAs(FUEL, 0, NONE, true), 14);
        Due.is("of the other kind, not yet", x.factorAs(POWER, 0, 0, false), NONE);
    }

    @Says(promise = 10, words = "the latest YEAR, no later than it, for which one of these was told")
    static void factorAsOfTheLatestYear() {
        SmokeLedger x = new SmokeLedger();
        x.factor(FUEL, 5, 50, 50);
        x.factor(FUEL, 3, 30, 30);
        x.factor(FUEL, 7, 70, 70);
        Due.is("a later version of an earlier year", x.factorAs(FUEL, 5, NONE, false), 50);
        Due.is("the year itself", x.factorAs(FUEL, 3, NONE, false), 30);
        Due.is("the year behind", x.factorAs(FUEL, 4, NONE, false), 30);
        Due.is("the last year before the next", x.factorAs(FUEL, 6, NONE, false), 50);
        Due.is("the next", x.factorAs(FUEL, 7, NONE, false), 70);
        Due.is("the next is not told as of 1", x.factorAs(FUEL, 7, 1, false), 50);
        Due.is("nor the one before as of 0", x.factorAs(FUEL, 4, 0, false), NONE);
    }

    // ---- promise 11, tons

    @Says(promise = 11, words = "UNKNOWN: row")
    static void tonsOfNoRow() {
        SmokeLedger x = new SmokeLedger();
        x.factor(FUEL, 0, 1, 1);
        Due.is("no rows yet", x.tons(0, NONE, false, false), UNKNOWN);
        x.row(0, FUEL, 11, 0, NONE);
        x.row(0, FUEL, 12, 0, NONE);
        for (int row : new int[] {-1, 2, NONE, 200, LEAST, MOST}) {
            Due.is("row " + row, x.tons(row, NONE, false, false), UNKNOWN);
        }
        Due.is("the first", x.tons(0, NONE, false, false), 11);
        Due.is("the last", x.tons(1, NONE, false, false), 12);
    }

    @Says(promise = 11, words = "UNKNOWN: row, as")
    static void tonsAsOfNoVersion() {
        SmokeLedger x = new SmokeLedger();
        x.row(0, FUEL, 10, 0, NONE);
        Due.is("no versions yet", x.tons(0, 0, false, false), UNKNOWN);
        Due.is("all of none", x.tons(0, NONE, false, false), NONE);
        x.factor(FUEL, 0, 1, 1);
        x.factor(FUEL, 0, 2, 2);
        for (int as : new int[] {-1, -8, -10, 2, 80, LEAST, MOST}) {
            Due.is("as of " + as, x.tons(0, as, false, false), UNKNOWN);
        }
        Due.is("the first", x.tons(0, 0, false, false), 10);
        Due.is("the last", x.tons(0, 1, false, false), 20);
        Due.is("all", x.tons(0, NONE, false, false), 20);
    }

    @Says(promise = 11, words = "NONE: its FACTOR LACKS.")
    static void tonsThatLack() {
        SmokeLedger x = new SmokeLedger();
        x.row(0, POWER, 2, 365, NONE);
        x.issue(0, 2);
        Due.is("nothing told", x.tons(0, NONE, false, false), NONE);
        x.factor(POWER, 2, 1, 1);
        Due.is("of a later year only", x.tons(0, NONE, false, false), NONE);
        x.factor(FUEL, 1, 1, 1);
        Due.is("of another kind only", x.tons(0, NONE, false, false), NONE);
        x.use(1, 2, 0);
        Due.is("all of it covered, by market", x.tons(0, NONE, true, false), NONE);
        x.factor(POWER, 1, 0, 3);
        Due.is("0 does not lack", x.tons(0, NONE, false, false), 0);
        Due.is("as of the one before", x.tons(0, 1, false, false), NONE);
    }

    @Says(promise = 11, words = "its AMOUNT times the FACTOR")
    static void tonsFromTheLeastToTheMost() {
        SmokeLedger x = new SmokeLedger();
        x.factor(FUEL, 0, 0, 1);
        x.row(0, FUEL, 1, 0, NONE);
        x.row(0, FUEL, 100000, 0, NONE);
        Due.is("1 by 0", x.tons(0, NONE, false, false), 0);
        Due.is("1 by 1", x.tons(0, NONE, false, true), 1);
        Due.is("100000 by 0", x.tons(1, NONE, false, false), 0);
        x.factor(FUEL, 0, 999, 1000);
        Due.is("100000 by 999", x.tons(1, NONE, false, false), 99900000);
        Due.is("100000 by 1000", x.tons(1, NONE, false, true), 100000000);
    }

    @Says(promise = 11, words = "YEARS are DAYS by 365, cut (0 .. 9).")
    static void tonsByTheYearsFirstAndLastDays() {
        SmokeLedger x = new SmokeLedger();
        for (int year = 0; year < 10; year++) {
            x.factor(FUEL, year, year + 1, year + 1);
            x.row(0, FUEL, 1, 365 * year, NONE);
            x.row(0, FUEL, 1, 365 * year + 364, NONE);
        }
        for (int year = 0; year < 10; year++) {
            Due.is("first day of " + year, x.tons(2 * year, NONE, false, false), year + 1);
            Due.is("last day of " + year, x.tons(2 * year + 1, NONE, false, false), year + 1);
        }
    }

    @Says(promise = 11, words = "the AMOUNT of a POWER ROW is less what is COVERED of it")
    static void tonsByMarketFromNothingToAll() {
        SmokeLedger x = new SmokeLedger();
        x.factor(POWER, 0, 7, 8);
        x.row(0, POWER, 3, 0, NONE);
        x.issue(0, 3);
        Due.is("nothing", x.tons(0, NONE, true, true), 24);
        x.use(1, 2, 0);
        Due.is("two", x.tons(0, NONE, true, true), 8);
        Due.is("two, low", x.tons(0, NONE, true, false), 7);
        x.use(3, 1, 0);
        Due.is("all", x.tons(0, NONE, true, true), 0);
        Due.is("not by market", x.tons(0, NONE, false, true), 24);
    }

    @Says(promise = 11, words = "the AMOUNT of a POWER ROW")
    static void tonsByMarketOfOtherKinds() {
        SmokeLedger x = new SmokeLedger();
        x.issue(0, 5);
        for (int kind = 0; kind < 4; kind++) {
            x.factor(kind, 0, 2, 2);
            x.row(0, kind, 5, 0, NONE);
        }
        x.use(1, 5, POWER);
        for (int kind = 0; kind < 4; kind++) {
            Due.is("kind " + kind, x.tons(kind, NONE, true, true), kind == POWER ? 0 : 10);
        }
    }

    // ---- promise 12, changed

    @Says(promise = 12, words = "UNKNOWN: one")
    static void changedAsOfNoVersionOne() {
        SmokeLedger x = twoVersions();
        for (int one : new int[] {-1, -8, -10, 2, 80, LEAST, MOST}) {
            Due.is("one " + one, x.changed(0, one, 0), UNKNOWN);
        }
        Due.is("the first", x.changed(0, 0, 0), 0);
        Due.is("the last", x.changed(0, 1, 0), 2);
        Due.is("all", x.changed(0, NONE, 0), 2);
    }

    @Says(promise = 12, words = "UNKNOWN: one, two")
    static void changedAsOfNoVersionTwo() {
        SmokeLedger x = twoVersions();
        for (int two : new int[] {-1, -8, -10, 2, 80, LEAST, MOST}) {
            Due.is("two " + two, x.changed(0, 1, two), UNKNOWN);
        }
        Due.is("the first", x.changed(0, 1, 0), 2);
        Due.is("the last", x.changed(0, 1, 1), 0);
        Due.is("all", x.changed(0, 1, NONE), 0);
    }

    @Says(promise = 12, words = "BAD: year.")
    static void changedYear() {
        SmokeLedger x = twoVersions();
        for (int year : new int[] {-1, 10, NONE, LEAST, MOST}) {
            Due.is("year " + year, x.changed(year, 0, 1), BAD);
        }
        Due.is("the first", x.changed(0, 0, 1), 2);
        Due.is("the last", x.changed(9, 0, 1), 1);
    }

    @Says(promise = 12, words = "Of several what is told first.")
    static void changedOrderOfRefusals() {
        SmokeLedger x = twoVersions();
        Due.is("one, and year", x.changed(10, 2, 0), UNKNOWN);
        Due.is("two, and year", x.changed(-1, 0, 2), UNKNOWN);
    }

    @Says(promise = 12, words = "How many ROWS of a YEAR have other TONS")
    static void changedFromNoneToAll() {
        SmokeLedger x = Ledgers.withAllRows();
        x.factor(POWER, 0, 1, 1);
        x.factor(FUEL, 1, 1, 1);
        Due.is("none", x.changed(0, 0, 1), 0);
        x.factor(FUEL, 0, 1, 1);
        Due.is("all", x.changed(0, 1, 2), 200);
        Due.is("the other way", x.changed(0, 2, 1), 200);
        Due.is("of a year without rows", x.changed(1, 1, 2), 0);
    }

    @Says(promise = 12, words = "(low or high, LACKING or not; not by market)")
    static void changedByEitherEnd() {
        SmokeLedger x = new SmokeLedger();
        x.row(0, FUEL, 1, 0, NONE);
        x.factor(FUEL, 0, 1, 3);
        x.factor(FUEL, 0, 2, 3);
        x.factor(FUEL, 0, 2, 4);
        x.factor(FUEL, 0, 2, 4);
        Due.is("low alone", x.changed(0, 0, 1), 1);
        Due.is("high alone", x.changed(0, 1, 2), 1);
        Due.is("told again, the same", x.changed(0, 2, 3), 0);
        Due.is("both", x.changed(0, 0, NONE), 1);
    }

    @Says(promise = 12, words = "LACKING or not")
    static void changedByLacking() {
        SmokeLedger x = new SmokeLedger();
        x.row(0, FUEL, 1, 0, NONE);
        x.factor(POWER, 0, 5, 5);
        x.factor(POWER, 0, 6, 6);
        Due.is("it lacks in both", x.changed(0, 0, 1), 0);
        x.factor(FUEL, 0, 0, 0);
        Due.is("it lacks, and 0", x.changed(0, 1, 2), 1);
        Due.is("0, and it lacks", x.changed(0, 2, 0), 1);
    }

    @Says(promise = 12, words = "not by market")
    static void changedNotByMarket() {
        SmokeLedger x = new SmokeLedger();
        x.row(0, POWER, 5, 0, NONE);
        x.issue(0, 5);
        x.use(1, 5, 0);
        x.factor(POWER, 0, 1, 1);
        x.factor(POWER, 0, 2, 2);
        Due.is("all of it covered", x.changed(0, 0, 1), 1);
    }

    @Says(promise = 12, words = "ROWS of a YEAR")
    static void changedByTheYearsFirstAndLastDays() {
        SmokeLedger x = new SmokeLedger();
        x.factor(FUEL, 0, 1, 1);
        x.factor(FUEL, 0, 2, 2);
        x.row(0, FUEL, 1, 364, NONE);
        x.row(0, FUEL, 1, 365, NONE);
        x.row(0, FUEL, 1, 729, NONE);
        x.row(0, FUEL, 1, 730, NONE);
        Due.is("year 0", x.changed(0, 0, 1), 1);
        Due.is("year 1", x.changed(1, 0, 1), 2);
        Due.is("year 2", x.changed(2, 0, 1), 1);
    }

    // ---- promise 13, change

    @Says(promise = 13, words = "The i-th of these ROWS")
    static void changeFromTheFirstToTheLast() {
        SmokeLedger x = twoVersions();
        Due.is("the first", x.change(0, 0, 0, 1), 0);
        Due.is("the last", x.change(1, 0, 0, 1), 3);
        Due.is("the other way", x.change(1, 0, 1, 0), 3);
        Due.is("as of all", x.change(1, 0, 0, NONE), 3);
        Due.is("of the last year", x.change(0, 9, 0, 1), 1);
    }

    @Says(promise = 13, words = "NONE")
    static void changeBeyondThem() {
        SmokeLedger x = twoVersions();
        for (int i : new int[] {2, 3, 200, MOST, -1, NONE, LEAST}) {
            Due.is("i " + i, x.change(i, 0, 0, 1), NONE);
        }
        Due.is("of none", x.change(0, 0, 1, 1), NONE);
        Due.is("of a year without rows", x.change(0, 1, 0, 1), NONE);
    }

    @Says(promise = 13, words = "UNKNOWN")
    static void changeAsOfNoVersion() {
        SmokeLedger x = twoVersions();
        for (int as : new int[] {-1, -8, -10, 2, 80, LEAST, MOST}) {
            Due.is("one " + as, x.change(0, 0, as, 0), UNKNOWN);
            Due.is("two " + as, x.change(0, 0, 0, as), UNKNOWN);
        }
        Due.is("the last and the first", x.change(0, 0, 1, 0), 0);
        Due.is("all and the first", x.change(0, 0, NONE, 0), 0);
    }

    @Says(promise = 13, words = "BAD")
    static void changeYear() {
        SmokeLedger x = twoVersions();
        for (int year : new int[] {-1, 10, NONE, LEAST, MOST}) {
            Due.is("year " + year, x.change(0, year, 0, 1), BAD);
        }
        Due.is("the first", x.change(0, 0, 0, 1), 0);
        Due.is("the last", x.change(0, 9, 0, 1), 1);
    }

    @Says(promise = 13, words = "Of several what is told first.")
    static void changeOrderOfRefusals() {
        SmokeLedger x = twoVersions();
        Due.is("one, and year", x.change(0, 10, 2, 0), UNKNOWN);
        Due.is("two, and year", x.change(0, -1, 0, 2), UNKNOWN);
        Due.is("two, and i", x.change(5, 0, 0, 2), UNKNOWN);
        Due.is("year, and i", x.change(5, 10, 0, 1), BAD);
    }

    @Says(promise = 13, words = "The i-th of these ROWS")
    static void changeOfTwoHundred() {
        SmokeLedger x = Ledgers.withAllRows();
        x.factor(POWER, 0, 1, 1);
        x.factor(FUEL, 0, 1, 1);
        Due.is("the first", x.change(0, 0, 0, 1), 0);
        Due.is("the last", x.change(199, 0, 0, 1), 199);
        Due.is("one more", x.change(200, 0, 0, 1), NONE);
    }

    /** Two versions that differ for FUEL; the rows 0 and 3 of year 0 and 1 of year 9 are of FUEL. */
    private static SmokeLedger twoVersions() {
        SmokeLedger x = new SmokeLedger();
        Due.is("factor", x.factor(FUEL, 0, 1, 1), 0);
        Due.is("factor", x.factor(FUEL, 0, 2, 2), 1);
        Due.is("row", x.row(0, FUEL, 1, 0, NONE), 0);
        Due.is("row", x.row(0, FUEL, 1, 3649, NONE), 1);
        Due.is("row", x.row(0, GOODS, 1, 1, NONE), 2);
        Due.is("row", x.row(0, FUEL, 1, 364, NONE), 3);
        return x;
    }
}
