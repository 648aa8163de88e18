/** Promises 1 to 6: a new object, unit, hold, holds, share, days. */
public final class UnitsTest {
    private static final int UNKNOWN = -1, BAD = -2, STATE = -3, FULL = -4, NONE = -9;

    public static void main(String[] args) {
        newObject();
        units();
        holdRefusals();
        holdOrderOfRefusals();
        holdAnswersWhatWas();
        holdRings();
        holdDepth();
        holdTiesOfAllDays();
        holdFull();
        refusedChangesNothing();
        holdsByDays();
        shares();
        sharesAreExact();
        bigShares();
        days();
        daysByChanges();
        Due.finish();
    }

    private static void newObject() {
        SmokeLedger x = new SmokeLedger();
        Due.is("count(0)", x.count(0), 1);
        for (int what = 1; what <= 4; what++) {
            Due.is("count(" + what + ")", x.count(what), 0);
        }
        Due.is("share of the group", x.share(0, 0), 1000000);
        Due.is("runs()", x.runs(), 0);
        Due.is("told(0, 0)", x.told(0, 0), UNKNOWN);
        Due.is("owner(1)", x.owner(1), UNKNOWN);
        Due.is("total", x.total(0, NONE, true, true, true), 0);
        Due.is("factorAs", x.factorAs(0, 0, NONE, true), NONE);
        Due.is("factorAs of version 0", x.factorAs(0, 0, 0, true), UNKNOWN);
        Due.is("share of another", x.share(1, 0), UNKNOWN);
    }

    private static void units() {
        SmokeLedger x = Ledgers.withUnits(10);
        Due.is("an 11th", x.unit(), FULL);
        Due.is("again", x.unit(), FULL);
        Due.is("count(0)", x.count(0), 10);
        Due.is("share(9, 0)", x.share(9, 0), 0);
        Due.is("share(10, 0)", x.share(10, 0), UNKNOWN);
        Due.is("another object", new SmokeLedger().count(0), 1);
    }

    private static void holdRefusals() {
        SmokeLedger x = Ledgers.withUnits(3);
        Due.is("a", x.hold(3, 1, 1, 0), UNKNOWN);
        Due.is("a below 0", x.hold(-1, 1, 1, 0), UNKNOWN);
        Due.is("a NONE", x.hold(NONE, 1, 1, 0), UNKNOWN);
        Due.is("b", x.hold(1, 3, 1, 0), UNKNOWN);
        Due.is("b below 0", x.hold(1, -1, 1, 0), UNKNOWN);
        Due.is("hundredths 101", x.hold(0, 1, 101, 0), BAD);
        Due.is("hundredths -1", x.hold(0, 1, -1, 0), BAD);
        Due.is("day 3650", x.hold(0, 1, 1, 3650), BAD);
        Due.is("day -1", x.hold(0, 1, 1, -1), BAD);
        Due.is("one", x.hold(1, 1, 1, 0), STATE);
        Due.is("one by 0", x.hold(1, 1, 0, 0), STATE);
        Due.is("count(4)", x.count(4), 0);
        Due.is("edges", x.hold(0, 1, 100, 3649), 0);
        Due.is("edges", x.hold(0, 2, 0, 0), 0);
        Due.is("count(4)", x.count(4), 2);
        int[] wild = {Integer.MIN_VALUE, Integer.MAX_VALUE};
        for (int w : wild) {
            Due.is("wild a", x.hold(w, 1, 1, 0), UNKNOWN);
            Due.is("wild b", x.hold(1, w, 1, 0), UNKNOWN);
            Due.is("wild hundredths", x.hold(0, 1, w, 0), BAD);
            Due.is("wild day", x.hold(0, 1, 1, w), BAD);
        }
    }

    private static void holdOrderOfRefusals() {
        SmokeLedger x = Ledgers.withUnits(3);
        Due.is("UNKNOWN ahead of BAD", x.hold(0, 3, 101, 0), UNKNOWN);
        Due.is("UNKNOWN ahead of STATE", x.hold(3, 3, 1, 0), UNKNOWN);
        Due.is("BAD ahead of STATE", x.hold(1, 1, 1, 3650), BAD);
        for (int day = 0; day < 100; day++) {
            Due.is("fills", x.hold(0, 1, 1, day), day == 0 ? 0 : 1);
        }
        Due.is("BAD ahead of FULL", x.hold(0, 2, 101, 0), BAD);
        Due.is("STATE ahead of FULL", x.hold(1, 0, 1, 0), STATE);
        Due.is("STATE ahead of FULL", x.hold(2, 2, 1, 0), STATE);
        Due.is("FULL", x.hold(0, 2, 1, 0), FULL);
    }

    private static void holdAnswersWhatWas() {
        SmokeLedger x = Ledgers.withUnits(2);
        Due.is("first", x.hold(0, 1, 30, 10), 0);
        Due.is("later", x.hold(0, 1, 40, 20), 30);
        Due.is("instead", x.hold(0, 1, 50, 20), 40);
        Due.is("between", x.hold(0, 1, 35, 15), 30);
        Due.is("earlier", x.hold(0, 1, 5, 9), 0);
        Due.is("by the same", x.hold(0, 1, 35, 15), 35);
        Due.is("to 0", x.hold(0, 1, 0, 15), 35);
        Due.is("behind 0", x.hold(0, 1, 7, 16), 0);
        Due.is("count(4)", x.count(4), 5);
    }

    private static void holdRings() {
        SmokeLedger x = Ledgers.withUnits(6);
        Due.is("hold", x.hold(1, 2, 10, 0), 0);
        Due.is("back", x.hold(2, 1, 10, 3000), STATE);
        Due.is("back by 0", x.hold(2, 1, 0, 3000), 0);
        Due.is("hold", x.hold(2, 3, 10, 500), 0);
        Due.is("ring of three", x.hold(3, 1, 10, 7), STATE);
        Due.is("up to the group", x.hold(3, 0, 10, 7), 0);
        Due.is("ring by the group", x.hold(0, 1, 10, 7), STATE);
        Due.is("beside", x.hold(0, 4, 10, 7), 0);
        Due.is("ring by the group", x.hold(4, 1, 1, 3649), STATE);
        Due.is("two ways to one", x.hold(1, 3, 10, 0), 0);
        Due.is("no ring", x.hold(1, 5, 10, 0), 0);
    }

    private static void holdDepth() {
        SmokeLedger x = Ledgers.withUnits(10);
        Due.is("0-1", x.hold(0, 1, 10, 0), 0);
        Due.is("1-2", x.hold(1, 2, 10, 0), 0);
        Due.is("2-3", x.hold(2, 3, 10, 0), 0);
        Due.is("a fourth", x.hold(3, 4, 10, 0), STATE);
        Due.is("at first hand", x.hold(0, 4, 10, 0), 0);
        Due.is("and still the fourth", x.hold(3, 4, 10, 0), STATE);
        Due.is("away from the group as long as one likes", x.hold(5, 6, 10, 0), 0);
        Due.is("6-7", x.hold(6, 7, 10, 0), 0);
        Due.is("7-8", x.hold(7, 8, 10, 0), 0);
        Due.is("8-9", x.hold(8, 9, 10, 0), 0);
        Due.is("the group would reach 9 by five", x.hold(0, 5, 10, 0), STATE);
        Due.is("the group would reach 9 by four", x.hold(0, 6, 10, 0), STATE);
        Due.is("the group reaches 9 by three", x.hold(0, 7, 10, 0), 0);
        Due.is("1 would reach 9 by three, the group by four", x.hold(1, 7, 10, 0), STATE);
        Due.is("1 reaches 8 by one", x.hold(1, 8, 10, 0), 0);
        Due.is("2 to 8 makes 9 the fourth", x.hold(2, 8, 10, 0), STATE);
        Due.is("2 to 9", x.hold(2, 9, 10, 0), 0);
        Due.is("over the group", x.hold(5, 0, 10, 0), 0);
    }

    private static void holdTiesOfAllDays() {
        SmokeLedger x = Ledgers.withUnits(5);
        Due.is("1-2 from 0", x.hold(1, 2, 10, 0), 0);
        Due.is("none from 10", x.hold(1, 2, 0, 10), 10);
        Due.is("2-1 from 20: the old one still counts", x.hold(2, 1, 10, 20), STATE);
        Due.is("1-2 instead", x.hold(1, 2, 0, 0), 10);
        Due.is("2-1 from 20", x.hold(2, 1, 10, 20), 0);
        Due.is("1-2 now not", x.hold(1, 2, 10, 0), STATE);
        Due.is("2-1 twice", x.hold(2, 1, 20, 30), 10);
        Due.is("2-1 once less", x.hold(2, 1, 0, 20), 10);
        Due.is("1-2 still not", x.hold(1, 2, 10, 0), STATE);
        Due.is("2-1 all away", x.hold(2, 1, 0, 30), 20);
        Due.is("1-2 again", x.hold(1, 2, 10, 0), 0);
        Due.is("count(4)", x.count(4), 4);
    }

    private static void holdFull() {
        SmokeLedger x = Ledgers.withUnits(3);
        for (int i = 0; i < 100; i++) {
            x.hold(0, 1, i, 3649 - i * 3);
        }
        Due.is("count(4)", x.count(4), 100);
        Due.is("one more", x.hold(0, 1, 1, 3648), FULL);
        Due.is("one more by 0", x.hold(0, 1, 0, 3648), FULL);
        Due.is("of others", x.hold(0, 2, 1, 3649), FULL);
        Due.is("instead", x.hold(0, 1, 77, 3649), 0);
        Due.is("instead by 0", x.hold(0, 1, 0, 3646), 1);
        Due.is("still none more", x.hold(0, 1, 0, 3647), FULL);
        Due.is("count(4)", x.count(4), 100);
        Due.is("holds", x.holds(0, 1, 3649), 77);
        Due.is("holds", x.holds(0, 1, 3648), 0);
        Due.is("holds", x.holds(0, 1, 3645), 2);
        Due.is("holds", x.holds(0, 1, 3352), 99);
        Due.is("holds", x.holds(0, 1, 3351), 0);
        Due.is("share behind all", x.share(1, 3649), 770000);
        Due.is("share ahead of all", x.share(1, 3351), 0);
        Due.is("days", x.days(1, 3645, 3649), 20000 + 770000);
    }

    private static void refusedChangesNothing() {
        SmokeLedger x = Ledgers.withUnits(3);
        x.hold(0, 1, 50, 0);
        x.hold(1, 2, 50, 0);
        Due.is("ring", x.hold(2, 0, 50, 0), STATE);
        Due.is("holds", x.holds(2, 0, 0), 0);
        Due.is("share", x.share(2, 0), 250000);
        Due.is("count(4)", x.count(4), 2);
        Due.is("a refused tie is none", x.hold(0, 2, 1, 0), 0);
    }

    private static void holdsByDays() {
        SmokeLedger x = Ledgers.withUnits(3);
        x.hold(0, 1, 20, 100);
        x.hold(0, 1, 60, 50);
        x.hold(0, 2, 99, 70);
        Due.is("ahead", x.holds(0, 1, 49), 0);
        Due.is("from its day", x.holds(0, 1, 50), 60);
        Due.is("up to the next", x.holds(0, 1, 99), 60);
        Due.is("the next", x.holds(0, 1, 100), 20);
        Due.is("to the end", x.holds(0, 1, 3649), 20);
        Due.is("the other way", x.holds(1, 0, 100), 0);
        Due.is("of another", x.holds(0, 2, 100), 99);
        Due.is("of itself", x.holds(1, 1, 100), 0);
        Due.is("a", x.holds(3, 0, 0), UNKNOWN);
        Due.is("b", x.holds(0, 3, 0), UNKNOWN);
        Due.is("a below 0", x.holds(-1, 0, 0), UNKNOWN);
        Due.is("day", x.holds(0, 1, 3650), BAD);
        Due.is("day", x.holds(0, 1, -1), BAD);
        Due.is("UNKNOWN ahead of BAD", x.holds(0, 3, -1), UNKNOWN);
    }

    private static void shares() {
        SmokeLedger x = Ledgers.withUnits(5);
        Due.is("unit", x.share(5, 0), UNKNOWN);
        Due.is("unit", x.share(-1, 0), UNKNOWN);
        Due.is("day", x.share(1, -1), BAD);
        Due.is("day", x.share(1, 3650), BAD);
        Due.is("UNKNOWN ahead of BAD", x.share(5, 3650), UNKNOWN);
        Due.is("the group", x.share(0, 3649), 1000000);
        Due.is("nothing told", x.share(1, 0), 0);
        x.hold(0, 1, 1, 10);
        Due.is("a hundredth", x.share(1, 10), 10000);
        Due.is("ahead of it", x.share(1, 9), 0);
        x.hold(2, 3, 100, 0);
        Due.is("held by one that is not the group's", x.share(3, 10), 0);
        x.hold(1, 2, 50, 20);
        Due.is("two", x.share(2, 20), 5000);
        Due.is("three", x.share(3, 20), 5000);
        Due.is("three, ahead", x.share(3, 19), 0);
        x.hold(4, 0, 100, 0);
        Due.is("the group, held", x.share(0, 100), 1000000);
        Due.is("its holder", x.share(4, 100), 0);
        x.hold(0, 1, 0, 30);
        Due.is("away", x.share(3, 30), 0);
        Due.is("not yet away", x.share(3, 29), 5000);
    }

    private static void sharesAreExact() {
        SmokeLedger x = Ledgers.withUnits(4);
        x.hold(0, 1, 1, 0);
        x.hold(1, 2, 1, 0);
        x.hold(2, 3, 1, 0);
        Due.is("a millionth", x.share(3, 0), 1);
        x.hold(0, 1, 33, 1);
        x.hold(1, 2, 77, 1);
        x.hold(2, 3, 51, 1);
        Due.is("33 77 51", x.share(3, 1), 33 * 77 * 51);
        Due.is("33 77", x.share(2, 1), 33 * 77 * 100);
        x.hold(1, 3, 7, 2);
        x.hold(0, 3, 3, 3);
        x.hold(0, 2, 9, 4);
        Due.is("and 33 7", x.share(3, 2), 33 * 77 * 51 + 33 * 7 * 100);
        Due.is("and 3", x.share(3, 3), 33 * 77 * 51 + 33 * 7 * 100 + 3 * 10000);
        Due.is("and 9 51", x.share(3, 4), 33 * 77 * 51 + 33 * 7 * 100 + 3 * 10000 + 9 * 51 * 100);
    }

    private static void bigShares() {
        SmokeLedger x = Ledgers.withBigShare();
        Due.is("share(5, 0)", x.share(5, 0), 5000000);
        Due.is("share(9, 0)", x.share(9, 0), 25000000);
        Due.is("days(9, 0, 3649)", x.days(9, 0, 3649), 91250000000L);
    }

    private static void days() {
        SmokeLedger x = Ledgers.withUnits(2);
        x.hold(0, 1, 10, 5);
        Due.is("unit", x.days(2, 0, 0), UNKNOWN);
        Due.is("from", x.days(1, -1, 5), BAD);
        Due.is("to", x.days(1, 0, 3650), BAD);
        Due.is("to below from", x.days(1, 6, 5), BAD);
        Due.is("UNKNOWN ahead of BAD", x.days(2, 6, 5), UNKNOWN);
        Due.is("wild", x.days(1, Integer.MIN_VALUE, Integer.MAX_VALUE), BAD);
        Due.is("one day", x.days(1, 5, 5), 100000);
        Due.is("one day ahead", x.days(1, 4, 4), 0);
        Due.is("over the edge", x.days(1, 4, 6), 200000);
        Due.is("all", x.days(1, 0, 3649), 3645L * 100000);
        Due.is("all of the group", x.days(0, 0, 3649), 3650000000L);
    }

    private static void daysByChanges() {
        SmokeLedger x = Ledgers.withUnits(4);
        x.hold(0, 1, 50, 10);
        x.hold(0, 2, 20, 10);
        x.hold(1, 3, 40, 20);
        x.hold(2, 3, 30, 20);
        x.hold(0, 1, 0, 30);
        x.hold(0, 3, 1, 3649);
        for (int unit = 0; unit < 4; unit++) {
            for (int from = 8; from < 33; from++) {
                long sum = 0;
                for (int to = from; to < 33; to++) {
                    sum += x.share(unit, to);
                    Due.is("days", x.days(unit, from, to), sum);
                }
            }
        }
        Due.is("to the end", x.days(3, 3648, 3649), 60000 + 60000 + 10000);
    }
}
