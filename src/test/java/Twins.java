import java.util.ArrayList;
import java.util.List;
import java.util.function.Supplier;
import java.util.function.ToLongFunction;

/**
 * Two ledgers made by the same calls. One of them is asked for what is refused; later calls, those
 * that ask and those that tell, answer the same on both.
 */
final class Twins {
    private static final int NONE = -9;
    private static final int[] DAYS = {0, 7, 60, 370, 991, 3649};
    private static final int[] ROWS = {0, 1, 2, 3, 4, 199};
    private static final int[] SERIALS = {1, 2, 3, 4, 5, 8, 9, 12, 13, 15, 16, 12000, 12001, 20000};

    /** Which of two ledgers is asked, and what it answered. */
    private static final class Answers {
        final SmokeLedger x;
        final List<String> calls = new ArrayList<>();
        final List<Long> given = new ArrayList<>();

        Answers(SmokeLedger x) {
            this.x = x;
        }

        void add(String call, long answer) {
            calls.add(call);
            given.add(answer);
        }
    }

    /** Some calls, few enough that a ledger is used no more than 512 times. */
    private interface Later {
        void ask(Answers to);
    }

    private static final Later[] LATER = {
        Twins::askCounts, Twins::askCertificates, Twins::askHoldings, Twins::askShares, Twins::askRows,
        Twins::askFactors, Twins::askTotals, Twins::tellUnitsAndRows, Twins::tellHoldings, Twins::tellCertificates};

    private final Supplier<SmokeLedger> maker;

    Twins(Supplier<SmokeLedger> maker) {
        this.maker = maker;
    }

    void refused(String what, long due, ToLongFunction<SmokeLedger> call) {
        for (Later later : LATER) {
            Answers one = new Answers(maker.get());
            Answers two = new Answers(maker.get());
            Due.is(what, call.applyAsLong(one.x), due);
            later.ask(one);
            later.ask(two);
            for (int i = 0; i < one.given.size(); i++) {
                Due.is(one.calls.get(i) + " behind a refusal for " + what, one.given.get(i), two.given.get(i));
            }
        }
    }

    private static void askCounts(Answers to) {
        for (int what = 0; what < 5; what++) {
            to.add("count", to.x.count(what));
        }
        to.add("runs", to.x.runs());
        for (int i = 0; i < 8; i++) {
            for (int what = 0; what < 4; what++) {
                to.add("run", to.x.run(i, what));
            }
        }
    }

    private static void askCertificates(Answers to) {
        for (int unit = 0; unit < 10; unit++) {
            to.add("free", to.x.free(unit));
        }
        for (int serial : SERIALS) {
            to.add("owner", to.x.owner(serial));
            to.add("usedFor", to.x.usedFor(serial));
        }
    }

    private static void askHoldings(Answers to) {
        for (int a = 0; a < 6; a++) {
            for (int b = 0; b < 6; b++) {
                for (int day : DAYS) {
                    to.add("holds", to.x.holds(a, b, day));
                }
            }
        }
    }

    private static void askShares(Answers to) {
        for (int unit = 0; unit < 10; unit++) {
            for (int day : DAYS) {
                to.add("share", to.x.share(unit, day));
                to.add("days", to.x.days(unit, day / 2, day));
            }
        }
    }

    private static void askRows(Answers to) {
        for (int row : ROWS) {
            for (int what = 0; what < 7; what++) {
                to.add("told", to.x.told(row, what));
            }
            to.add("low tons", to.x.tons(row, NONE, false, false));
            to.add("high tons", to.x.tons(row, NONE, true, true));
            to.add("old tons", to.x.tons(row, 0, true, true));
        }
    }

    private static void askFactors(Answers to) {
        for (int year = 0; year < 10; year++) {
            for (int kind = 0; kind < 4; kind++) {
                to.add("low factor", to.x.factorAs(kind, year, NONE, false));
                to.add("high factor", to.x.factorAs(kind, year, NONE, true));
                to.add("old factor", to.x.factorAs(kind, year, 1, true));
            }
            to.add("changed", to.x.changed(year, 0, NONE));
            to.add("change", to.x.change(0, year, 0, NONE));
        }
    }

    private static void askTotals(Answers to) {
        for (int year = 0; year < 10; year++) {
            to.add("total", to.x.total(year, NONE, false, false, false));
            to.add("total once", to.x.total(year, NONE, true, true, true));
            to.add("anew", to.x.anew(year, 60, NONE, true, true, true));
            to.add("part", to.x.part(1, year, NONE, true, false, true));
            to.add("doubles", to.x.doubles(year));
            to.add("onPath", to.x.onPath(year, 0, 9, 30));
        }
    }

    private static void tellUnitsAndRows(Answers to) {
        to.add("row", to.x.row(0, 1, 5, 20, 1));
        to.add("factor", to.x.factor(1, 0, 3, 4));
        to.add("unit", to.x.unit());
        to.add("row", to.x.row(1, 2, 5, 366, NONE));
        to.add("factor", to.x.factor(2, 1, 3, 4));
        to.add("unit", to.x.unit());
        askCounts(to);
        askRows(to);
        askTotals(to);
    }

    /** What may be held yet shows all ties. */
    private static void tellHoldings(Answers to) {
        for (int a = 0; a < 6; a++) {
            for (int b = 0; b < 6; b++) {
                to.add("hold", to.x.hold(a, b, 1 + a, 8));
            }
        }
        askShares(to);
    }

    private static void tellCertificates(Answers to) {
        to.add("issue", to.x.issue(0, 2));
        to.add("move", to.x.move(5, 2, 0));
        to.add("use", to.x.use(9, 2, 3));
        to.add("use", to.x.use(7, 2, 0));
        to.add("use", to.x.use(1, 1, 0));
        to.add("move", to.x.move(12, 3, 1));
        to.add("issue", to.x.issue(1, 1));
        askCounts(to);
        askCertificates(to);
    }
}
