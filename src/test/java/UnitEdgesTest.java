/** The boundary cases of the promises 1 to 6, a test for each sentence: new object, unit, hold, holds, share, days. */
public final class UnitEdgesTest {
    private static final int UNKNOWN = -1, BAD = -2, STATE = -3, FULL = -4, NONE = -9;
    private static final int LEAST = Integer.MIN_VALUE, MOST = Integer.MAX_VALUE;

    public static void main(String[] args) throws IllegalAccessException {
        Sentences.runAll(UnitEdgesTest.class);
    }

    // ---- promise 1, a new object

    @Says(promise = 1, words = "THE GROUP alone, nothing else.")
    static void newHasTheGroupAlone() {
        SmokeLedger x = new SmokeLedger();
        Due.is("units", x.count(0), 1);
        Due.is("share of the group", x.share(0, 0), 1000000);
        Due.is("share of unit 1", x.share(1, 0), UNKNOWN);
        Due.is("unit -1", x.free(-1), UNKNOWN);
        Due.is("the first that comes", x.unit(), 1);
    }

    @Says(promise = 1, words = "nothing else")
    static void newHasNoHoldings() {
        SmokeLedger x = new SmokeLedger();
        Due.is("holdings", x.count(4), 0);
        Due.is("of itself", x.holds(0, 0, 0), 0);
        x.unit();
        Due.is("of the first unit", x.holds(0, 1, 3649), 0);
        Due.is("share of the first unit", x.share(1, 3649), 0);
    }

    @Says(promise = 1, words = "nothing else")
    static void newHasNoRows() {
        SmokeLedger x = new SmokeLedger();
        Due.is("rows", x.count(1), 0);
        Due.is("told(0, 0)", x.told(0, 0), UNKNOWN);
        Due.is("tons of row 0", x.tons(0, NONE, false, false), UNKNOWN);
        Due.is("doubles", x.doubles(0), 0);
        Due.is("changed", x.changed(0, NONE, NONE), 0);
        Due.is("change", x.change(0, 0, NONE, NONE), NONE);
        Due.is("total", x.total(0, NONE, true, true, true), 0);
        Due.is("anew", x.anew(0, 0, NONE, true, true, true), 0);
        Due.is("part", x.part(0, 0, NONE, true, true, true), 0);
        Due.is("nothing is at most nothing", x.onPath(0, 0, 1, 100), 1);
    }

    @Says(promise = 1, words = "nothing else")
    static void newHasNoVersions() {
        SmokeLedger x = new SmokeLedger();
        Due.is("versions", x.count(2), 0);
        Due.is("as of 0", x.factorAs(0, 0, 0, true), UNKNOWN);
        for (int kind = 0; kind < 4; kind++) {
            Due.is("lacks for kind " + kind, x.factorAs(kind, 9, NONE, true), NONE);
        }
    }

    @Says(promise = 1, words = "nothing else")
    static void newHasNoSerials() {
        SmokeLedger x = new SmokeLedger();
        Due.is("serials", x.count(3), 0);
        Due.is("free", x.free(0), 0);
        Due.is("runs", x.runs(), 0);
        Due.is("run 0", x.run(0, 0), UNKNOWN);
        Due.is("owner of 1", x.owner(1), UNKNOWN);
        Due.is("row of 1", x.usedFor(1), UNKNOWN);
    }

    @Says(promise = 1, words = "nothing else")
    static void newHasNothingOfAnotherObject() {
        Ledgers.ordinary();
        SmokeLedger x = new SmokeLedger();
        Due.is("units", x.count(0), 1);
        for (int what = 1; what <= 4; what++) {
            Due.is("count(" + what + ")", x.count(what), 0);
        }
        Due.is("runs", x.runs(), 0);
    }

    @Says(promise = 1, words = "An object is used for at most 512 calls after it has been made")
    static void the512thCallIsAnsweredWhereAllIsFull() {
        SmokeLedger x = new SmokeLedger();
        int calls = 0;
        for (int i = 1; i <= 9; i++, calls++) {
            Due.is("unit", x.unit(), i);
        }
        for (int i = 0; i < 100; i++, calls++) {
            Due.is("hold", x.hold(0, 1 + i / 50, 1 + i % 50, 70 * (i % 50)), i % 50);
        }
        for (int i = 0; i < 200; i++, calls++) {
            Due.is("row", x.row(1, i % 4, 100000, 3649 - i, 2), i);
        }
        for (int i = 0; i < 80; i++, calls++) {
            Due.is("factor", x.factor(i % 4, i / 8, 1000, 1000), i);
        }
        for (int i = 0; i < 118; i++, calls++) {
            Due.is("issue", x.issue(i % 10, 100), 1 + 100 * i);
        }
        Due.is("the rest", x.issue(0, 8200), 11801);
        Due.is("units", x.unit(), FULL);
        Due.is("holdings", x.hold(0, 3, 1, 0), FULL);
        Due.is("rows", x.row(0, 0, 1, 0, NONE), FULL);
        calls += 4;
        Due.is("calls up to now", calls, 511);
        Due.is("the 512th", x.total(9, NONE, false, false, true), 200L * 100000000 * 500000);
    }

    @Says(promise = 1, words = "An object is used for at most 512 calls after it has been made")
    static void the512thCallIsAnsweredWhereRunsAreMany() {
        SmokeLedger x = Ledgers.withUnits(2);
        Due.is("issue", x.issue(0, 20000), 1);
        for (int i = 1; i <= 509; i++) {
            Due.is("move", x.move(2 * i, 1, 1), 1);
        }
        Due.is("the 512th", x.runs(), 1019);
    }

    @Says(promise = 1, words = "An object is used for at most 512 calls after it has been made")
    static void the512thCallMayBeTheOneThatTells() {
        SmokeLedger x = new SmokeLedger();
        for (int i = 0; i < 511; i++) {
            Due.is("units", x.count(0), 1);
        }
        Due.is("the 512th", x.unit(), 1);
    }

    // ---- promise 2, unit

    @Says(promise = 2, words = "UNITS 0, 1, ..")
    static void unitsAreNumberedOneBehindTheOther() {
        SmokeLedger x = new SmokeLedger();
        for (int i = 1; i <= 9; i++) {
            Due.is("not yet", x.share(i, 0), UNKNOWN);
            Due.is("unit", x.unit(), i);
            Due.is("units", x.count(0), i + 1);
            Due.is("now", x.share(i, 0), 0);
        }
    }

    @Says(promise = 2, words = "FULL: 10.")
    static void unitsAreTenAtMost() {
        SmokeLedger x = Ledgers.withUnits(9);
        Due.is("the tenth", x.unit(), 9);
        Due.is("an eleventh", x.unit(), FULL);
        Due.is("and again", x.unit(), FULL);
        Due.is("units", x.count(0), 10);
        Due.is("the tenth is there", x.share(9, 0), 0);
        Due.is("the eleventh is not", x.share(10, 0), UNKNOWN);
    }

    // ---- promise 3, hold

    @Says(promise = 3, words = "UNKNOWN: a")
    static void holdByNoUnit() {
        SmokeLedger x = Ledgers.withUnits(3);
        for (int a : new int[] {-1, 3, NONE, 10, LEAST, MOST}) {
            Due.is("a " + a, x.hold(a, 1, 1, 0), UNKNOWN);
        }
        Due.is("the first", x.hold(0, 1, 1, 0), 0);
        Due.is("the last", x.hold(2, 1, 1, 0), 0);
    }

    @Says(promise = 3, words = "UNKNOWN: a, b")
    static void holdOfNoUnit() {
        SmokeLedger x = Ledgers.withUnits(3);
        for (int b : new int[] {-1, 3, NONE, 10, LEAST, MOST}) {
            Due.is("b " + b, x.hold(1, b, 1, 0), UNKNOWN);
        }
        Due.is("the first", x.hold(1, 0, 1, 0), 0);
        Due.is("the last", x.hold(1, 2, 1, 0), 0);
    }

    @Says(promise = 3, words = "BAD: hundredths")
    static void holdHundredths() {
        SmokeLedger x = Ledgers.withUnits(2);
        for (int hundredths : new int[] {-1, 101, NONE, LEAST, MOST}) {
            Due.is("hundredths " + hundredths, x.hold(0, 1, hundredths, 0), BAD);
        }
        Due.is("holdings", x.count(4), 0);
        Due.is("0", x.hold(0, 1, 0, 0), 0);
        Due.is("1", x.hold(0, 1, 1, 0), 0);
        Due.is("100", x.hold(0, 1, 100, 0), 1);
        Due.is("holds", x.holds(0, 1, 0), 100);
    }

    @Says(promise = 3, words = "BAD: hundredths, day")
    static void holdDay() {
        SmokeLedger x = Ledgers.withUnits(2);
        for (int day : new int[] {-1, 3650, NONE, LEAST, MOST}) {
            Due.is("day " + day, x.hold(0, 1, 1, day), BAD);
        }
        Due.is("holdings", x.count(4), 0);
        Due.is("day 3649", x.hold(0, 1, 7, 3649), 0);
        Due.is("day 0", x.hold(0, 1, 8, 0), 0);
        Due.is("up to the last day", x.holds(0, 1, 3648), 8);
        Due.is("on the last day", x.holds(0, 1, 3649), 7);
    }

    @Says(promise = 3, words = "STATE: a and b are one")
    static void holdOfItself() {
        SmokeLedger x = Ledgers.withUnits(3);
        for (int unit = 0; unit < 3; unit++) {
            Due.is("1 of " + unit, x.hold(unit, unit, 1, 0), STATE);
            Due.is("100 of " + unit, x.hold(unit, unit, 100, 3649), STATE);
            Due.is("0 of " + unit, x.hold(unit, unit, 0, 0), STATE);
        }
        Due.is("holdings", x.count(4), 0);
    }

    @Says(promise = 3, words = "a UNIT would hold itself through others")
    static void holdInARingOfTwo() {
        SmokeLedger x = Ledgers.withUnits(3);
        Due.is("1 of 2", x.hold(1, 2, 1, 0), 0);
        Due.is("2 of 1", x.hold(2, 1, 1, 0), STATE);
        Due.is("0 of 1", x.hold(0, 1, 1, 0), 0);
        Due.is("1 of 0", x.hold(1, 0, 1, 0), STATE);
        Due.is("1 of 2 once more", x.hold(1, 2, 2, 0), 1);
        Due.is("holdings", x.count(4), 2);
    }

    @Says(promise = 3, words = "a UNIT would hold itself through others")
    static void holdInARingThroughTheGroup() {
        SmokeLedger x = Ledgers.withUnits(3);
        Due.is("2 of 0", x.hold(2, 0, 1, 0), 0);
        Due.is("0 of 1", x.hold(0, 1, 1, 0), 0);
        Due.is("1 of 2", x.hold(1, 2, 1, 0), STATE);
        Due.is("2 of 1: no ring", x.hold(2, 1, 1, 0), 0);
    }

    @Says(promise = 3, words = "a UNIT would hold itself through others")
    static void holdInTheLongestRing() {
        SmokeLedger x = Ledgers.withUnits(10);
        for (int unit = 1; unit < 9; unit++) {
            Due.is(unit + " of the next", x.hold(unit, unit + 1, 1, 0), 0);
        }
        for (int unit = 1; unit < 9; unit++) {
            Due.is("9 of " + unit, x.hold(9, unit, 1, 0), STATE);
        }
        Due.is("9 of 0, the tenth", x.hold(9, 0, 1, 0), 0);
        for (int unit = 1; unit <= 9; unit++) {
            Due.is("0 of " + unit, x.hold(0, unit, 1, 0), STATE);
        }
        Due.is("1 of 9: no ring", x.hold(1, 9, 1, 0), 0);
    }

    @Says(promise = 3, words = "No HOLDING above 0 may be told by which")
    static void holdOf0MayAlwaysBeTold() {
        SmokeLedger x = Ledgers.withUnits(5);
        Due.is("0 of 1", x.hold(0, 1, 1, 0), 0);
        Due.is("1 of 2", x.hold(1, 2, 1, 0), 0);
        Due.is("2 of 3", x.hold(2, 3, 1, 0), 0);
        Due.is("ring, by 1", x.hold(2, 1, 1, 0), STATE);
        Due.is("ring, by 0", x.hold(2, 1, 0, 0), 0);
        Due.is("a fourth, by 1", x.hold(3, 4, 1, 0), STATE);
        Due.is("a fourth, by 0", x.hold(3, 4, 0, 0), 0);
        Due.is("holdings", x.count(4), 5);
        Due.is("what is told by 0 makes no ring", x.hold(4, 3, 1, 0), 0);
    }

    @Says(promise = 3, words = "by all HOLDINGS above 0 of whatever DAYS together")
    static void holdInARingOfOtherDays() {
        SmokeLedger x = Ledgers.withUnits(4);
        Due.is("1 of 2 on the last day", x.hold(1, 2, 1, 3649), 0);
        Due.is("2 of 1 on the first", x.hold(2, 1, 1, 0), STATE);
        Due.is("2 of 3 from 0", x.hold(2, 3, 1, 0), 0);
        Due.is("and no more from 1", x.hold(2, 3, 0, 1), 1);
        Due.is("3 of 2 from 2", x.hold(3, 2, 1, 2), STATE);
        Due.is("3 of 1 from 2", x.hold(3, 1, 1, 2), STATE);
    }

    @Says(promise = 3, words = "by all HOLDINGS above 0 of whatever DAYS together")
    static void holdTooDeepByOtherDays() {
        SmokeLedger x = Ledgers.withUnits(5);
        Due.is("0 of 1 from 0", x.hold(0, 1, 1, 0), 0);
        Due.is("no more from 1", x.hold(0, 1, 0, 1), 1);
        Due.is("1 of 2 from 2", x.hold(1, 2, 1, 2), 0);
        Due.is("no more from 3", x.hold(1, 2, 0, 3), 1);
        Due.is("2 of 3 from 4", x.hold(2, 3, 1, 4), 0);
        Due.is("no more from 5", x.hold(2, 3, 0, 5), 1);
        Due.is("3 of 4 from 6", x.hold(3, 4, 1, 6), STATE);
    }

    @Says(promise = 3, words = "(one told instead by 0 is none any more)")
    static void holdToldInsteadBy0MakesNoRing() {
        SmokeLedger x = Ledgers.withUnits(3);
        Due.is("1 of 2 from 5", x.hold(1, 2, 1, 5), 0);
        Due.is("1 of 2 from 6", x.hold(1, 2, 1, 6), 1);
        Due.is("one away", x.hold(1, 2, 0, 5), 1);
        Due.is("2 of 1: the other is there", x.hold(2, 1, 1, 0), STATE);
        Due.is("both away", x.hold(1, 2, 0, 6), 1);
        Due.is("2 of 1", x.hold(2, 1, 1, 0), 0);
        Due.is("1 of 2", x.hold(1, 2, 1, 5), STATE);
    }

    @Says(promise = 3, words = "(one told instead by 0 is none any more)")
    static void holdToldInsteadBy0IsNotDeep() {
        SmokeLedger x = Ledgers.withUnits(5);
        for (int unit = 0; unit < 3; unit++) {
            Due.is(unit + " of the next", x.hold(unit, unit + 1, 1, 0), 0);
        }
        Due.is("3 of 4, a fourth", x.hold(3, 4, 1, 0), STATE);
        Due.is("1 of 2 away", x.hold(1, 2, 0, 0), 1);
        Due.is("3 of 4", x.hold(3, 4, 1, 0), 0);
        Due.is("1 of 2 makes it four", x.hold(1, 2, 1, 0), STATE);
        Due.is("1 of 3 makes it three", x.hold(1, 3, 1, 0), 0);
    }

    @Says(promise = 3, words = "or be reached from THE GROUP by more than 3 one behind the other")
    static void holdAFourthAtTheEnd() {
        SmokeLedger x = Ledgers.withUnits(6);
        Due.is("a first", x.hold(0, 1, 1, 0), 0);
        Due.is("a second", x.hold(1, 2, 1, 0), 0);
        Due.is("a third", x.hold(2, 3, 1, 0), 0);
        Due.is("a fourth", x.hold(3, 4, 1, 0), STATE);
        Due.is("of 4 at first hand", x.hold(0, 4, 1, 0), 0);
        Due.is("and the fourth all the same", x.hold(3, 4, 1, 0), STATE);
        Due.is("of 4 by 2", x.hold(2, 4, 1, 0), 0);
        Due.is("of 5 by 4", x.hold(4, 5, 1, 0), STATE);
    }

    @Says(promise = 3, words = "or be reached from THE GROUP by more than 3 one behind the other")
    static void holdAFourthInTheMiddle() {
        SmokeLedger x = Ledgers.withUnits(6);
        Due.is("0 of 1", x.hold(0, 1, 1, 0), 0);
        Due.is("1 of 2", x.hold(1, 2, 1, 0), 0);
        Due.is("3 of 4", x.hold(3, 4, 1, 0), 0);
        Due.is("2 of 3 makes 4 the fourth", x.hold(2, 3, 1, 0), STATE);
        Due.is("1 of 3 makes it the third", x.hold(1, 3, 1, 0), 0);
    }

    @Says(promise = 3, words = "or be reached from THE GROUP by more than 3 one behind the other")
    static void holdAFourthAtTheStart() {
        SmokeLedger x = Ledgers.withUnits(6);
        for (int unit = 1; unit < 4; unit++) {
            Due.is(unit + " of the next", x.hold(unit, unit + 1, 1, 0), 0);
        }
        Due.is("0 of 1 makes 4 the fourth", x.hold(0, 1, 1, 0), STATE);
        Due.is("0 of 2 makes it the third", x.hold(0, 2, 1, 0), 0);
    }

    @Says(promise = 3, words = "reached from THE GROUP")
    static void holdAwayFromTheGroupIsAsDeepAsOneLikes() {
        SmokeLedger x = Ledgers.withUnits(10);
        for (int unit = 1; unit < 9; unit++) {
            Due.is(unit + " of the next", x.hold(unit, unit + 1, 1, 0), 0);
        }
        Due.is("up to the group", x.hold(9, 0, 1, 0), 0);
        Due.is("holdings", x.count(4), 9);
    }

    @Says(promise = 3, words = "FULL: 100 HOLDINGS")
    static void holdingsAreAHundredAtMost() {
        SmokeLedger x = Ledgers.withUnits(3);
        for (int i = 0; i < 99; i++) {
            Due.is("holding", x.hold(0, 1, 50, i), i == 0 ? 0 : 50);
        }
        Due.is("the hundredth", x.hold(0, 2, 20, 3649), 0);
        Due.is("holdings", x.count(4), 100);
        Due.is("one more", x.hold(0, 2, 20, 3648), FULL);
        Due.is("one more by 0", x.hold(0, 2, 0, 3648), FULL);
        Due.is("one more for a day that others have", x.hold(0, 2, 20, 0), FULL);
        Due.is("one more of others", x.hold(1, 2, 20, 3649), FULL);
        Due.is("holdings", x.count(4), 100);
    }

    @Says(promise = 3, words = "(one instead of another one is none more)")
    static void holdInsteadWhereAllAreTold() {
        SmokeLedger x = Ledgers.withAllHoldings();
        Due.is("the first", x.hold(0, 1, 1, 0), 50);
        Due.is("the last", x.hold(0, 1, 100, 990), 50);
        Due.is("by 0", x.hold(0, 1, 0, 500), 50);
        Due.is("by 0 it is told yet", x.hold(0, 1, 7, 501), FULL);
        Due.is("once more", x.hold(0, 1, 9, 500), 0);
        Due.is("holdings", x.count(4), 100);
        Due.is("holds", x.holds(0, 1, 3649), 100);
    }

    @Says(promise = 3, words = "what it was on that DAY")
    static void holdAnswersWhatItWas() {
        SmokeLedger x = Ledgers.withUnits(2);
        Due.is("nothing yet", x.hold(0, 1, 30, 10), 0);
        Due.is("the day before", x.hold(0, 1, 5, 9), 0);
        Due.is("the day behind", x.hold(0, 1, 40, 11), 30);
        Due.is("instead", x.hold(0, 1, 100, 10), 30);
        Due.is("instead by the same", x.hold(0, 1, 100, 10), 100);
        Due.is("instead by 0", x.hold(0, 1, 0, 10), 100);
        Due.is("behind all", x.hold(0, 1, 1, 3649), 40);
        Due.is("ahead of all", x.hold(0, 1, 2, 0), 0);
    }

    @Says(promise = 3, words = "Of several what is told first.")
    static void holdOrderOfRefusals() {
        SmokeLedger x = Ledgers.withAllHoldings();
        Due.is("a, and all else", x.hold(3, 3, 101, 3650), UNKNOWN);
        Due.is("b, and hundredths", x.hold(0, 3, 101, 0), UNKNOWN);
        Due.is("b, and day", x.hold(0, 3, 1, 3650), UNKNOWN);
        Due.is("a, and one", x.hold(-1, -1, 1, 0), UNKNOWN);
        Due.is("hundredths, and one, and full", x.hold(2, 2, 101, 0), BAD);
        Due.is("day, and one, and full", x.hold(2, 2, 1, 3650), BAD);
        Due.is("day, and a ring, and full", x.hold(1, 0, 1, -1), BAD);
        Due.is("one, and full", x.hold(2, 2, 1, 0), STATE);
        Due.is("a ring, and full", x.hold(1, 0, 1, 0), STATE);
        Due.is("full alone", x.hold(1, 0, 0, 0), FULL);
    }

    @Says(promise = 3, words = "Of several what is told first.")
    static void holdTooDeepAheadOfFull() {
        SmokeLedger x = Ledgers.withUnits(5);
        for (int i = 0; i < 98; i++) {
            Due.is("0 of 1", x.hold(0, 1, 1, i), i == 0 ? 0 : 1);
        }
        Due.is("1 of 2", x.hold(1, 2, 1, 0), 0);
        Due.is("2 of 3", x.hold(2, 3, 1, 0), 0);
        Due.is("too deep, and full", x.hold(3, 4, 1, 0), STATE);
        Due.is("full alone", x.hold(2, 4, 1, 0), FULL);
    }

    // ---- promise 4, holds

    @Says(promise = 4, words = "UNKNOWN")
    static void holdsOfNoUnits() {
        SmokeLedger x = Ledgers.withUnits(3);
        for (int unit : new int[] {-1, 3, NONE, 10, LEAST, MOST}) {
            Due.is("a " + unit, x.holds(unit, 1, 0), UNKNOWN);
            Due.is("b " + unit, x.holds(1, unit, 0), UNKNOWN);
        }
        Due.is("the first and the last", x.holds(0, 2, 0), 0);
        Due.is("the last and the first", x.holds(2, 0, 0), 0);
    }

    @Says(promise = 4, words = "BAD: day.")
    static void holdsDay() {
        SmokeLedger x = Ledgers.withUnits(2);
        x.hold(0, 1, 5, 0);
        for (int day : new int[] {-1, 3650, NONE, LEAST, MOST}) {
            Due.is("day " + day, x.holds(0, 1, day), BAD);
        }
        Due.is("day 0", x.holds(0, 1, 0), 5);
        Due.is("day 3649", x.holds(0, 1, 3649), 5);
    }

    @Says(promise = 4, words = "Of several what is told first.")
    static void holdsOrderOfRefusals() {
        SmokeLedger x = Ledgers.withUnits(2);
        Due.is("a, and day", x.holds(2, 0, 3650), UNKNOWN);
        Due.is("b, and day", x.holds(0, -1, -1), UNKNOWN);
    }

    @Says(promise = 4, words = "what was told for the latest DAY up to it")
    static void holdsByTheLatestDay() {
        SmokeLedger x = Ledgers.withUnits(3);
        x.hold(0, 1, 20, 100);
        x.hold(0, 1, 60, 50);
        x.hold(0, 2, 99, 75);
        Due.is("the day before", x.holds(0, 1, 49), 0);
        Due.is("its day", x.holds(0, 1, 50), 60);
        Due.is("the day before the next", x.holds(0, 1, 99), 60);
        Due.is("the next", x.holds(0, 1, 100), 20);
        Due.is("the last day", x.holds(0, 1, 3649), 20);
        Due.is("of another", x.holds(0, 2, 100), 99);
    }

    @Says(promise = 4, words = "told again for one DAY: instead")
    static void holdsWhatIsToldInstead() {
        SmokeLedger x = Ledgers.withUnits(2);
        x.hold(0, 1, 20, 100);
        x.hold(0, 1, 30, 101);
        x.hold(0, 1, 100, 100);
        Due.is("the day before", x.holds(0, 1, 99), 0);
        Due.is("its day", x.holds(0, 1, 100), 100);
        Due.is("the day behind", x.holds(0, 1, 101), 30);
        x.hold(0, 1, 0, 101);
        Due.is("instead by 0: not what was before", x.holds(0, 1, 101), 0);
        Due.is("holdings", x.count(4), 2);
    }

    @Says(promise = 4, words = "nothing: 0")
    static void holdsNothing() {
        SmokeLedger x = Ledgers.withUnits(4);
        x.hold(0, 1, 20, 100);
        Due.is("ahead of all", x.holds(0, 1, 0), 0);
        Due.is("the other way", x.holds(1, 0, 100), 0);
        Due.is("of another", x.holds(0, 2, 100), 0);
        Due.is("by another", x.holds(2, 1, 100), 0);
        Due.is("of itself", x.holds(1, 1, 100), 0);
        x.hold(1, 2, 50, 0);
        Due.is("through another only", x.holds(0, 2, 100), 0);
    }

    // ---- promise 5, share

    @Says(promise = 5, words = "UNKNOWN")
    static void shareOfNoUnit() {
        SmokeLedger x = Ledgers.withUnits(3);
        for (int unit : new int[] {-1, 3, NONE, 10, LEAST, MOST}) {
            Due.is("unit " + unit, x.share(unit, 0), UNKNOWN);
        }
        Due.is("the first", x.share(0, 0), 1000000);
        Due.is("the last", x.share(2, 0), 0);
    }

    @Says(promise = 5, words = "BAD")
    static void shareDay() {
        SmokeLedger x = Ledgers.withUnits(2);
        x.hold(0, 1, 1, 0);
        for (int day : new int[] {-1, 3650, NONE, LEAST, MOST}) {
            Due.is("day " + day, x.share(1, day), BAD);
            Due.is("of the group, day " + day, x.share(0, day), BAD);
        }
        Due.is("day 0", x.share(1, 0), 10000);
        Due.is("day 3649", x.share(1, 3649), 10000);
    }

    @Says(promise = 5, words = "Of several what is told first.")
    static void shareOrderOfRefusals() {
        SmokeLedger x = Ledgers.withUnits(2);
        Due.is("unit, and day", x.share(2, 3650), UNKNOWN);
        Due.is("unit, and day", x.share(-1, -1), UNKNOWN);
    }

    @Says(promise = 5, words = "of THE GROUP 1000000")
    static void shareOfTheGroup() {
        SmokeLedger x = Ledgers.withUnits(3);
        Due.is("day 0", x.share(0, 0), 1000000);
        Due.is("day 3649", x.share(0, 3649), 1000000);
        x.hold(0, 1, 100, 0);
        x.hold(2, 0, 100, 0);
        Due.is("held by another", x.share(0, 0), 1000000);
        Due.is("its holder", x.share(2, 0), 0);
    }

    @Says(promise = 5, words = "(so 10000 for a hundredth of a UNIT held at first hand)")
    static void shareAtFirstHand() {
        SmokeLedger x = Ledgers.withUnits(2);
        Due.is("nothing", x.share(1, 0), 0);
        x.hold(0, 1, 1, 10);
        x.hold(0, 1, 100, 20);
        x.hold(0, 1, 0, 30);
        Due.is("the day before", x.share(1, 9), 0);
        Due.is("a hundredth", x.share(1, 10), 10000);
        Due.is("the last day of it", x.share(1, 19), 10000);
        Due.is("the whole", x.share(1, 20), 1000000);
        Due.is("the last day of it", x.share(1, 29), 1000000);
        Due.is("nothing any more", x.share(1, 30), 0);
    }

    @Says(promise = 5, words = "the sum over all rows of HOLDINGS from THE GROUP to it of their products")
    static void shareOfTheSmallestProduct() {
        SmokeLedger x = Ledgers.withUnits(4);
        x.hold(0, 1, 1, 0);
        x.hold(1, 2, 1, 0);
        x.hold(2, 3, 1, 0);
        Due.is("two", x.share(2, 0), 100);
        Due.is("three: a millionth", x.share(3, 0), 1);
        x.hold(0, 3, 1, 1);
        Due.is("and one more row", x.share(3, 1), 10001);
        x.hold(1, 2, 0, 2);
        Due.is("a product by 0", x.share(3, 2), 10000);
    }

    @Says(promise = 5, words = "from THE GROUP to it")
    static void shareOfWhatTheGroupDoesNotReach() {
        SmokeLedger x = Ledgers.withUnits(4);
        x.hold(1, 2, 100, 0);
        x.hold(2, 3, 100, 0);
        Due.is("held by others only", x.share(3, 0), 0);
        x.hold(0, 1, 1, 5);
        Due.is("the day before", x.share(3, 4), 0);
        Due.is("its day", x.share(3, 5), 10000);
    }

    @Says(promise = 5, words = "It may be above 1000000.")
    static void shareAboveTheWhole() {
        SmokeLedger x = Ledgers.withUnits(3);
        x.hold(0, 1, 1, 0);
        x.hold(0, 2, 100, 0);
        Due.is("just the whole", x.share(2, 0), 1000000);
        x.hold(1, 2, 1, 0);
        Due.is("a bit more", x.share(2, 0), 1000100);
        Due.is("the most there can be", Ledgers.withBigShare().share(9, 0), 25000000);
    }

    @Says(promise = 5, words = "(one instead of another one is none more)")
    static void shareWhereAllHoldingsAreTold() {
        SmokeLedger x = Ledgers.withAllHoldings();
        Due.is("behind all", x.share(1, 3649), 500000);
        Due.is("on the first day", x.share(1, 0), 500000);
        x.hold(0, 1, 7, 990);
        x.hold(0, 1, 8, 0);
        Due.is("behind all, told instead", x.share(1, 3649), 70000);
        Due.is("the day before", x.share(1, 989), 500000);
        Due.is("on the first day, told instead", x.share(1, 9), 80000);
        Due.is("one more", x.hold(0, 1, 9, 991), FULL);
        Due.is("behind all yet", x.share(1, 3649), 70000);
    }

    // ---- promise 6, days

    @Says(promise = 6, words = "UNKNOWN")
    static void daysOfNoUnit() {
        SmokeLedger x = Ledgers.withUnits(3);
        for (int unit : new int[] {-1, 3, NONE, 10, LEAST, MOST}) {
            Due.is("unit " + unit, x.days(unit, 0, 0), UNKNOWN);
        }
        Due.is("the first", x.days(0, 0, 0), 1000000);
        Due.is("the last", x.days(2, 0, 0), 0);
    }

    @Says(promise = 6, words = "BAD: a day")
    static void daysFrom() {
        SmokeLedger x = Ledgers.withUnits(2);
        x.hold(0, 1, 1, 0);
        for (int from : new int[] {-1, 3650, NONE, LEAST, MOST}) {
            Due.is("from " + from, x.days(1, from, 3649), BAD);
        }
        Due.is("from 0", x.days(1, 0, 3649), 36500000);
        Due.is("from 3649", x.days(1, 3649, 3649), 10000);
    }

    @Says(promise = 6, words = "BAD: a day")
    static void daysTo() {
        SmokeLedger x = Ledgers.withUnits(2);
        x.hold(0, 1, 1, 0);
        for (int to : new int[] {-1, 3650, NONE, LEAST, MOST}) {
            Due.is("to " + to, x.days(1, 0, to), BAD);
        }
        Due.is("both below", x.days(1, -2, -1), BAD);
        Due.is("both above", x.days(1, 3650, 3650), BAD);
        Due.is("to 0", x.days(1, 0, 0), 10000);
        Due.is("to 3649", x.days(1, 0, 3649), 36500000);
    }

    @Says(promise = 6, words = "or to is below from")
    static void daysToBelowFrom() {
        SmokeLedger x = Ledgers.withUnits(2);
        x.hold(0, 1, 1, 0);
        Due.is("one below", x.days(1, 6, 5), BAD);
        Due.is("far below", x.days(1, 3649, 0), BAD);
        Due.is("the same", x.days(1, 6, 6), 10000);
        Due.is("one above", x.days(1, 6, 7), 20000);
    }

    @Says(promise = 6, words = "Of several what is told first.")
    static void daysOrderOfRefusals() {
        SmokeLedger x = Ledgers.withUnits(2);
        Due.is("unit, and from", x.days(2, -1, 0), UNKNOWN);
        Due.is("unit, and to", x.days(-1, 0, 3650), UNKNOWN);
        Due.is("unit, and to below from", x.days(2, 6, 5), UNKNOWN);
    }

    @Says(promise = 6, words = "over the DAYS from .. to")
    static void daysCountBothEnds() {
        SmokeLedger x = Ledgers.withUnits(2);
        x.hold(0, 1, 1, 10);
        x.hold(0, 1, 5, 20);
        x.hold(0, 1, 0, 30);
        Due.is("up to the day before", x.days(1, 0, 9), 0);
        Due.is("up to its day", x.days(1, 0, 10), 10000);
        Due.is("up to the next", x.days(1, 10, 20), 150000);
        Due.is("from the last day of one", x.days(1, 19, 20), 60000);
        Due.is("from the last day", x.days(1, 29, 30), 50000);
        Due.is("from the end", x.days(1, 30, 3649), 0);
        Due.is("all", x.days(1, 0, 3649), 600000);
    }

    @Says(promise = 6, words = "Numbers told as longs may be beyond ints.")
    static void daysBeyondInts() {
        SmokeLedger x = new SmokeLedger();
        Due.is("the last within ints", x.days(0, 0, 2146), 2147000000L);
        Due.is("the first beyond", x.days(0, 0, 2147), 2148000000L);
        Due.is("all", x.days(0, 0, 3649), 3650000000L);
        Due.is("the most there can be", Ledgers.withBigShare().days(9, 0, 3649), 91250000000L);
    }

    @Says(promise = 6, words = "(one instead of another one is none more)")
    static void daysWhereAllHoldingsAreTold() {
        SmokeLedger x = Ledgers.withAllHoldings();
        Due.is("all", x.days(1, 0, 3649), 1825000000L);
        x.hold(0, 1, 0, 990);
        Due.is("told instead", x.days(1, 0, 3649), 495000000L);
        Due.is("from the last of them", x.days(1, 989, 990), 500000);
    }
}
