/** Promises 3 to 6 by ordinary runs of calls: hold, holds, share, days. */
public final class UnitsTest {
    private static final int STATE = -3;

    public static void main(String[] args) {
        holdAnswersWhatWas();
        holdRings();
        holdDepth();
        holdTiesOfAllDays();
        holdInAnyOrderOfDays();
        shares();
        sharesAreExact();
        daysByChanges();
        Due.finish();
    }

    private static void holdAnswersWhatWas() {
        SmokeLedger x = Ledgers.withUnits(2);
        Due.is("first", x.hold(0, 1, 30, 10), 0);
        Due.is("later", x.hold(0, 1, 40, 20), 30);
        Due.is("instead", x.hold(0, 1, 50, 20), 40);
        Due.is("between", x.hold(0, 1, 35, 15), 30);
        Due.is("earlier", x.hold(0, 1, 5, 9), 0);
        Due.is("by the same", x.hold(0, 1, 35, 15), 35);
        Due.is("to 0", x.hold(0, 1, 0, 15), 35);
        Due.is("behind 0", x.hold(0, 1, 7, 16), 0);
        Due.is("count(4)", x.count(4), 5);
    }

    private static void holdRings() {
        SmokeLedger x = Ledgers.withUnits(6);
        Due.is("hold", x.hold(1, 2, 10, 0), 0);
        Due.is("back", x.hold(2, 1, 10, 3000), STATE);
        Due.is("back by 0", x.hold(2, 1, 0, 3000), 0);
        Due.is("hold", x.hold(2, 3, 10, 500), 0);
        Due.is("ring of three", x.hold(3, 1, 10, 7), STATE);
        Due.is("up to the group", x.hold(3, 0, 10, 7), 0);
        Due.is("ring by the group", x.hold(0, 1, 10, 7), STATE);
        Due.is("beside", x.hold(0, 4, 10, 7), 0);
        Due.is("ring by the group", x.hold(4, 1, 1, 3649), STATE);
        Due.is("two ways to one", x.hold(1, 3, 10, 0), 0);
        Due.is("no ring", x.hold(1, 5, 10, 0), 0);
    }

    private static void holdDepth() {
        SmokeLedger x = Ledgers.withUnits(10);
        Due.is("0-1", x.hold(0, 1, 10, 0), 0);
        Due.is("1-2", x.hold(1, 2, 10, 0), 0);
        Due.is("2-3", x.hold(2, 3, 10, 0), 0);
        Due.is("a fourth", x.hold(3, 4, 10, 0), STATE);
        Due.is("at first hand", x.hold(0, 4, 10, 0), 0);
        Due.is("and still the fourth", x.hold(3, 4, 10, 0), STATE);
        Due.is("away from the group as long as one likes", x.hold(5, 6, 10, 0), 0);
        Due.is("6-7", x.hold(6, 7, 10, 0), 0);
        Due.is("7-8", x.hold(7, 8, 10, 0), 0);
        Due.is("8-9", x.hold(8, 9, 10, 0), 0);
        Due.is("the group would reach 9 by five", x.hold(0, 5, 10, 0), STATE);
        Due.is("the group would reach 9 by four", x.hold(0, 6, 10, 0), STATE);
        Due.is("the group reaches 9 by three", x.hold(0, 7, 10, 0), 0);
        Due.is("1 would reach 9 by three, the group by four", x.hold(1, 7, 10, 0), STATE);
        Due.is("1 reaches 8 by one", x.hold(1, 8, 10, 0), 0);
        Due.is("2 to 8 makes 9 the fourth", x.hold(2, 8, 10, 0), STATE);
        Due.is("2 to 9", x.hold(2, 9, 10, 0), 0);
        Due.is("over the group", x.hold(5, 0, 10, 0), 0);
    }

    private static void holdTiesOfAllDays() {
        SmokeLedger x = Ledgers.withUnits(5);
        Due.is("1-2 from 0", x.hold(1, 2, 10, 0), 0);
        Due.is("none from 10", x.hold(1, 2, 0, 10), 10);
        Due.is("2-1 from 20: the old one still counts", x.hold(2, 1, 10, 20), STATE);
        Due.is("1-2 instead", x.hold(1, 2, 0, 0), 10);
        Due.is("2-1 from 20", x.hold(2, 1, 10, 20), 0);
        Due.is("1-2 now not", x.hold(1, 2, 10, 0), STATE);
        Due.is("2-1 twice", x.hold(2, 1, 20, 30), 10);
        Due.is("2-1 once less", x.hold(2, 1, 0, 20), 10);
        Due.is("1-2 still not", x.hold(1, 2, 10, 0), STATE);
        Due.is("2-1 all away", x.hold(2, 1, 0, 30), 20);
        Due.is("1-2 again", x.hold(1, 2, 10, 0), 0);
        Due.is("count(4)", x.count(4), 4);
    }

    private static void holdInAnyOrderOfDays() {
        SmokeLedger x = Ledgers.withUnits(3);
        for (int i = 0; i < 100; i++) {
            x.hold(0, 1, i, 3649 - i * 3);
        }
        Due.is("count(4)", x.count(4), 100);
        Due.is("instead", x.hold(0, 1, 77, 3649), 0);
        Due.is("instead by 0", x.hold(0, 1, 0, 3646), 1);
        Due.is("count(4)", x.count(4), 100);
        Due.is("holds", x.holds(0, 1, 3649), 77);
        Due.is("holds", x.holds(0, 1, 3648), 0);
        Due.is("holds", x.holds(0, 1, 3645), 2);
        Due.is("holds", x.holds(0, 1, 3352), 99);
        Due.is("holds", x.holds(0, 1, 3351), 0);
        Due.is("share behind all", x.share(1, 3649), 770000);
        Due.is("share ahead of all", x.share(1, 3351), 0);
        Due.is("days", x.days(1, 3645, 3649), 20000 + 770000);
    }

    private static void shares() {
        SmokeLedger x = Ledgers.withUnits(5);
        Due.is("the group", x.share(0, 3649), 1000000);
        Due.is("nothing told", x.share(1, 0), 0);
        x.hold(0, 1, 1, 10);
        Due.is("a hundredth", x.share(1, 10), 10000);
        Due.is("ahead of it", x.share(1, 9), 0);
        x.hold(2, 3, 100, 0);
        Due.is("held by one that is not the group's", x.share(3, 10), 0);
        x.hold(1, 2, 50, 20);
        Due.is("two", x.share(2, 20), 5000);
        Due.is("three", x.share(3, 20), 5000);
        Due.is("three, ahead", x.share(3, 19), 0);
        x.hold(4, 0, 100, 0);
        Due.is("the group, held", x.share(0, 100), 1000000);
        Due.is("its holder", x.share(4, 100), 0);
        x.hold(0, 1, 0, 30);
        Due.is("away", x.share(3, 30), 0);
        Due.is("not yet away", x.share(3, 29), 5000);
    }

    private static void sharesAreExact() {
        SmokeLedger x = Ledgers.withUnits(4);
        x.hold(0, 1, 1, 0);
        x.hold(1, 2, 1, 0);
        x.hold(2, 3, 1, 0);
        Due.is("a millionth", x.share(3, 0), 1);
        x.hold(0, 1, 33, 1);
        x.hold(1, 2, 77, 1);
        x.hold(2, 3, 51, 1);
        Due.is("33 77 51", x.share(3, 1), 33 * 77 * 51);
        Due.is("33 77", x.share(2, 1), 33 * 77 * 100);
        x.hold(1, 3, 7, 2);
        x.hold(0, 3, 3, 3);
        x.hold(0, 2, 9, 4);
        Due.is("and 33 7", x.share(3, 2), 33 * 77 * 51 + 33 * 7 * 100);
        Due.is("and 3", x.share(3, 3), 33 * 77 * 51 + 33 * 7 * 100 + 3 * 10000);
        Due.is("and 9 51", x.share(3, 4), 33 * 77 * 51 + 33 * 7 * 100 + 3 * 10000 + 9 * 51 * 100);
    }

    private static void daysByChanges() {
        for (int unit = 0; unit < 4; unit++) {
            for (int from = 8; from < 33; from++) {
                SmokeLedger x = changingOften();
                long sum = 0;
                for (int to = from; to < 33; to++) {
                    sum += x.share(unit, to);
                    Due.is("days", x.days(unit, from, to), sum);
                }
            }
        }
        Due.is("to the end", changingOften().days(3, 3648, 3649), 60000 + 60000 + 10000);
    }

    private static SmokeLedger changingOften() {
        SmokeLedger x = Ledgers.withUnits(4);
        x.hold(0, 1, 50, 10);
        x.hold(0, 2, 20, 10);
        x.hold(1, 3, 40, 20);
        x.hold(2, 3, 30, 20);
        x.hold(0, 1, 0, 30);
        x.hold(0, 3, 1, 3649);
        return x;
    }
}
