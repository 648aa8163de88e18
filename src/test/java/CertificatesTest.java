/** Promises 19 to 27 by ordinary runs of calls: issue, move, use, owner, usedFor, free, runs, run, count. */
public final class CertificatesTest {
    private static final int STATE = -3, NONE = -9;

    public static void main(String[] args) {
        issuesJoin();
        moves();
        uses();
        usedOnceForAll();
        ownersAndRows();
        frees();
        runsSplitAndJoin();
        manyRuns();
        counts();
        Due.finish();
    }

    private static void sameRun(SmokeLedger x, int i, int first, int length, int owner, int row) {
        Due.is("run " + i + ", first", x.run(i, 0), first);
        Due.is("run " + i + ", how many", x.run(i, 1), length);
        Due.is("run " + i + ", owner", x.run(i, 2), owner);
        Due.is("run " + i + ", row", x.run(i, 3), row);
    }

    private static void issuesJoin() {
        SmokeLedger x = Ledgers.withUnits(2);
        x.issue(1, 3);
        Due.is("behind", x.issue(1, 4), 4);
        Due.is("one run", x.runs(), 1);
        sameRun(x, 0, 1, 7, 1, NONE);
        x.issue(0, 1);
        x.issue(1, 1);
        Due.is("three runs", x.runs(), 3);
        x.row(1, 1, 5, 0, NONE);
        x.use(9, 1, 0);
        Due.is("behind a used one", x.issue(1, 2), 10);
        sameRun(x, 2, 9, 1, 1, 0);
        sameRun(x, 3, 10, 2, 1, NONE);
    }

    private static void moves() {
        SmokeLedger x = Ledgers.withUnits(3);
        x.issue(0, 10);
        Due.is("to its owner", x.move(1, 10, 0), 0);
        Due.is("some", x.move(3, 2, 1), 2);
        Due.is("some are there", x.move(2, 5, 1), 3);
        Due.is("all", x.move(1, 10, 1), 5);
        Due.is("one run", x.runs(), 1);
        Due.is("the last", x.move(10, 1, 2), 1);
        Due.is("the first", x.move(1, 1, 2), 1);
        Due.is("owner(1)", x.owner(1), 2);
        Due.is("owner(2)", x.owner(2), 1);
        Due.is("owner(9)", x.owner(9), 1);
        Due.is("owner(10)", x.owner(10), 2);
        Due.is("again", x.move(1, 10, 2), 8);
        sameRun(x, 0, 1, 10, 2, NONE);
        x.move(2, 1, 0);
        x.move(5, 2, 0);
        x.move(9, 1, 1);
        Due.is("some here and there", x.move(1, 9, 0), 6);
    }

    private static void uses() {
        SmokeLedger x = Ledgers.withUnits(2);
        x.row(1, 1, 100, 0, NONE);
        x.row(1, 1, 100, 0, NONE);
        x.issue(1, 50);
        Due.is("use", x.use(10, 5, 0), 5);
        Due.is("use", x.use(20, 5, 1), 5);
        Due.is("use", x.use(15, 5, 0), 10);
        Due.is("use", x.use(1, 1, 0), 11);
        Due.is("use", x.use(50, 1, 1), 6);
        Due.is("told(0, 6)", x.told(0, 6), 11);
        Due.is("told(1, 6)", x.told(1, 6), 6);
        Due.is("free(1)", x.free(1), 33);
        sameRun(x, 0, 1, 1, 1, 0);
        sameRun(x, 1, 2, 8, 1, NONE);
        sameRun(x, 2, 10, 10, 1, 0);
        sameRun(x, 3, 20, 5, 1, 1);
        sameRun(x, 4, 25, 25, 1, NONE);
        sameRun(x, 5, 50, 1, 1, 1);
        Due.is("runs()", x.runs(), 6);
    }

    private static void usedOnceForAll() {
        SmokeLedger x = Ledgers.withUnits(2);
        x.row(0, 1, 100, 0, NONE);
        x.row(0, 1, 100, 0, NONE);
        x.issue(0, 4);
        x.use(2, 2, 0);
        Due.is("for the same row", x.use(2, 1, 0), STATE);
        Due.is("for another row", x.use(3, 1, 1), STATE);
        Due.is("moved", x.move(2, 2, 1), STATE);
        Due.is("beside", x.move(1, 1, 1), 1);
        Due.is("moved one is not the row's unit's", x.use(1, 1, 0), STATE);
        x.move(1, 1, 0);
        Due.is("moved back", x.use(1, 1, 0), 3);
        x.issue(0, 6);
        x.use(8, 1, 1);
        Due.is("one is used, and one behind them", x.use(3, 2, 0), STATE);
        Due.is("one is used, and one behind them", x.move(3, 2, 1), STATE);
        Due.is("between used ones", x.use(4, 4, 1), 5);
    }

    private static void ownersAndRows() {
        SmokeLedger x = Ledgers.withUnits(2);
        x.row(0, 1, 100, 0, NONE);
        x.row(0, 1, 100, 0, NONE);
        x.issue(0, 6);
        x.use(2, 2, 1);
        x.use(4, 1, 0);
        x.move(6, 1, 1);
        int[] rows = {NONE, 1, 1, 0, NONE, NONE};
        int[] owners = {0, 0, 0, 0, 0, 1};
        for (int serial = 1; serial <= 6; serial++) {
            Due.is("owner " + serial, x.owner(serial), owners[serial - 1]);
            Due.is("usedFor " + serial, x.usedFor(serial), rows[serial - 1]);
        }
    }

    private static void frees() {
        SmokeLedger x = Ledgers.withUnits(3);
        x.row(0, 1, 100, 0, NONE);
        Due.is("nothing", x.free(0), 0);
        x.issue(0, 6);
        x.issue(1, 5);
        x.issue(0, 4);
        Due.is("free(0)", x.free(0), 10);
        Due.is("free(1)", x.free(1), 5);
        Due.is("free(2)", x.free(2), 0);
        x.use(2, 2, 0);
        x.move(6, 2, 2);
        Due.is("free(0)", x.free(0), 7);
        Due.is("free(1)", x.free(1), 4);
        Due.is("free(2)", x.free(2), 2);
    }

    private static void runsSplitAndJoin() {
        SmokeLedger x = Ledgers.withUnits(3);
        x.issue(0, 9);
        x.issue(1, 9);
        x.move(4, 3, 1);
        Due.is("runs()", x.runs(), 4);
        sameRun(x, 0, 1, 3, 0, NONE);
        sameRun(x, 1, 4, 3, 1, NONE);
        sameRun(x, 2, 7, 3, 0, NONE);
        sameRun(x, 3, 10, 9, 1, NONE);
        x.move(8, 2, 1);
        sameRun(x, 2, 7, 1, 0, NONE);
        sameRun(x, 3, 8, 11, 1, NONE);
        x.move(5, 10, 2);
        Due.is("runs()", x.runs(), 4);
        sameRun(x, 1, 4, 1, 1, NONE);
        sameRun(x, 2, 5, 10, 2, NONE);
        sameRun(x, 3, 15, 4, 1, NONE);
        x.move(1, 18, 1);
        Due.is("runs()", x.runs(), 1);
        sameRun(x, 0, 1, 18, 1, NONE);
        x.row(1, 1, 100, 0, NONE);
        x.row(1, 1, 100, 0, NONE);
        x.use(1, 4, 0);
        x.use(5, 4, 1);
        Due.is("one owner, two rows", x.runs(), 3);
        x.use(9, 10, 1);
        Due.is("runs()", x.runs(), 2);
        sameRun(x, 1, 5, 14, 1, 1);
    }

    private static void manyRuns() {
        SmokeLedger x = Ledgers.withUnits(2);
        x.issue(0, 20000);
        for (int i = 1; i <= 480; i++) {
            Due.is("move", x.move(i * 40, 1, 1), 1);
        }
        Due.is("runs()", x.runs(), 961);
        sameRun(x, 959, 19200, 1, 1, NONE);
        sameRun(x, 960, 19201, 800, 0, NONE);
        Due.is("free(1)", x.free(1), 480);
        Due.is("all back", x.move(1, 20000, 0), 480);
        Due.is("runs()", x.runs(), 1);
    }

    private static void counts() {
        SmokeLedger x = Ledgers.withUnits(3);
        x.row(0, 0, 1, 0, NONE);
        x.row(0, 0, 1, 0, NONE);
        for (int i = 0; i < 4; i++) {
            x.factor(0, 0, 1, 1);
        }
        x.issue(0, 17);
        x.hold(0, 1, 5, 0);
        x.hold(0, 1, 0, 0);
        x.hold(0, 2, 0, 0);
        x.hold(0, 2, 9, 5);
        x.hold(0, 1, 3, 5);
        x.hold(0, 1, 4, 5);
        x.hold(1, 2, 4, 5);
        int[] due = {3, 2, 4, 17, 5};
        for (int what = 0; what < 5; what++) {
            Due.is("count(" + what + ")", x.count(what), due[what]);
        }
    }
}
