/** "What is refused changes nothing.", for each promise that refuses and each of its refusals. */
public final class RefusalsTest {
    private static final int UNKNOWN = -1, BAD = -2, STATE = -3, FULL = -4, NONE = -9;
    private static final String WORDS = "What is refused changes nothing.";
    private static final Twins ORDINARY = new Twins(Ledgers::ordinary);

    public static void main(String[] args) throws IllegalAccessException {
        Sentences.runAll(RefusalsTest.class);
    }

    @Says(promise = 2, words = WORDS)
    static void unit() {
        new Twins(() -> Ledgers.withUnits(10)).refused("units", FULL, x -> x.unit());
    }

    @Says(promise = 3, words = WORDS)
    static void hold() {
        ORDINARY.refused("a", UNKNOWN, x -> x.hold(5, 1, 9, 7));
        ORDINARY.refused("b", UNKNOWN, x -> x.hold(1, 5, 9, 7));
        ORDINARY.refused("hundredths", BAD, x -> x.hold(0, 1, 101, 7));
        ORDINARY.refused("hundredths", BAD, x -> x.hold(0, 1, -1, 0));
        ORDINARY.refused("day", BAD, x -> x.hold(0, 1, 9, 3650));
        ORDINARY.refused("day", BAD, x -> x.hold(0, 1, 9, -1));
        ORDINARY.refused("one", STATE, x -> x.hold(1, 1, 9, 7));
        ORDINARY.refused("one", STATE, x -> x.hold(4, 4, 0, 7));
    }

    @Says(promise = 3, words = WORDS)
    static void holdThatMayNotBeTold() {
        ORDINARY.refused("a ring of two", STATE, x -> x.hold(1, 0, 9, 7));
        ORDINARY.refused("a ring of three", STATE, x -> x.hold(3, 1, 9, 7));
        ORDINARY.refused("a fourth", STATE, x -> x.hold(3, 4, 9, 7));
    }

    @Says(promise = 3, words = WORDS)
    static void holdMoreThanAll() {
        Twins full = new Twins(Ledgers::withAllHoldings);
        full.refused("between others", FULL, x -> x.hold(0, 1, 9, 7));
        full.refused("by 0", FULL, x -> x.hold(0, 1, 0, 3649));
        full.refused("of others", FULL, x -> x.hold(0, 2, 9, 0));
        full.refused("a tie more", FULL, x -> x.hold(1, 2, 9, 0));
    }

    @Says(promise = 4, words = WORDS)
    static void holds() {
        ORDINARY.refused("a", UNKNOWN, x -> x.holds(5, 0, 0));
        ORDINARY.refused("b", UNKNOWN, x -> x.holds(0, -1, 0));
        ORDINARY.refused("day", BAD, x -> x.holds(0, 1, 3650));
    }

    @Says(promise = 5, words = WORDS)
    static void share() {
        ORDINARY.refused("unit", UNKNOWN, x -> x.share(5, 0));
        ORDINARY.refused("day", BAD, x -> x.share(1, -1));
    }

    @Says(promise = 6, words = WORDS)
    static void days() {
        ORDINARY.refused("unit", UNKNOWN, x -> x.days(5, 0, 9));
        ORDINARY.refused("from", BAD, x -> x.days(1, -1, 9));
        ORDINARY.refused("to", BAD, x -> x.days(1, 0, 3650));
        ORDINARY.refused("to below from", BAD, x -> x.days(1, 9, 8));
    }

    @Says(promise = 7, words = WORDS)
    static void row() {
        ORDINARY.refused("unit", UNKNOWN, x -> x.row(5, 0, 1, 0, NONE));
        ORDINARY.refused("seller", UNKNOWN, x -> x.row(0, 0, 1, 0, 5));
        ORDINARY.refused("kind", BAD, x -> x.row(0, 4, 1, 0, NONE));
        ORDINARY.refused("amount", BAD, x -> x.row(0, 0, 0, 0, NONE));
        ORDINARY.refused("amount", BAD, x -> x.row(0, 0, 100001, 0, NONE));
        ORDINARY.refused("day", BAD, x -> x.row(0, 0, 1, 3650, NONE));
        ORDINARY.refused("its own seller", STATE, x -> x.row(1, 0, 1, 0, 1));
        new Twins(Ledgers::withAllRows).refused("rows", FULL, x -> x.row(1, 3, 7, 9, 0));
    }

    @Says(promise = 8, words = WORDS)
    static void told() {
        ORDINARY.refused("row", UNKNOWN, x -> x.told(4, 0));
        ORDINARY.refused("what", BAD, x -> x.told(0, 7));
    }

    @Says(promise = 9, words = WORDS)
    static void factor() {
        ORDINARY.refused("kind", BAD, x -> x.factor(4, 0, 7, 7));
        ORDINARY.refused("year", BAD, x -> x.factor(1, 10, 7, 7));
        ORDINARY.refused("year", BAD, x -> x.factor(1, -1, 7, 7));
        ORDINARY.refused("low", BAD, x -> x.factor(1, 0, -1, 7));
        ORDINARY.refused("low", BAD, x -> x.factor(1, 0, 8, 7));
        ORDINARY.refused("high", BAD, x -> x.factor(1, 0, 7, 1001));
        new Twins(Ledgers::withAllVersions).refused("versions", FULL, x -> x.factor(0, 0, 7, 7));
    }

    @Says(promise = 10, words = WORDS)
    static void factorAs() {
        ORDINARY.refused("as", UNKNOWN, x -> x.factorAs(0, 0, 4, true));
        ORDINARY.refused("kind", BAD, x -> x.factorAs(4, 0, 0, true));
        ORDINARY.refused("year", BAD, x -> x.factorAs(0, 10, 0, true));
    }

    @Says(promise = 11, words = WORDS)
    static void tons() {
        ORDINARY.refused("row", UNKNOWN, x -> x.tons(4, NONE, true, true));
        ORDINARY.refused("as", UNKNOWN, x -> x.tons(0, 4, true, true));
    }

    @Says(promise = 12, words = WORDS)
    static void changed() {
        ORDINARY.refused("one", UNKNOWN, x -> x.changed(0, 4, 0));
        ORDINARY.refused("two", UNKNOWN, x -> x.changed(0, 0, -1));
        ORDINARY.refused("year", BAD, x -> x.changed(10, 0, 1));
    }

    @Says(promise = 13, words = WORDS)
    static void change() {
        ORDINARY.refused("one", UNKNOWN, x -> x.change(0, 0, 4, 0));
        ORDINARY.refused("two", UNKNOWN, x -> x.change(0, 0, 0, -1));
        ORDINARY.refused("year", BAD, x -> x.change(0, -1, 0, 1));
    }

    @Says(promise = 14, words = WORDS)
    static void total() {
        ORDINARY.refused("year", BAD, x -> x.total(10, 0, true, true, true));
        ORDINARY.refused("as", UNKNOWN, x -> x.total(0, 4, true, true, true));
    }

    @Says(promise = 15, words = WORDS)
    static void anew() {
        ORDINARY.refused("year", BAD, x -> x.anew(-1, 0, 0, true, true, true));
        ORDINARY.refused("day", BAD, x -> x.anew(0, 3650, 0, true, true, true));
        ORDINARY.refused("as", UNKNOWN, x -> x.anew(0, 0, 4, true, true, true));
    }

    @Says(promise = 16, words = WORDS)
    static void part() {
        ORDINARY.refused("unit", UNKNOWN, x -> x.part(5, 0, 0, true, true, true));
        ORDINARY.refused("year", BAD, x -> x.part(0, 10, 0, true, true, true));
        ORDINARY.refused("as", UNKNOWN, x -> x.part(0, 0, 4, true, true, true));
    }

    @Says(promise = 17, words = WORDS)
    static void doubles() {
        ORDINARY.refused("year", BAD, x -> x.doubles(10));
    }

    @Says(promise = 18, words = WORDS)
    static void onPath() {
        ORDINARY.refused("year", BAD, x -> x.onPath(10, 0, 9, 0));
        ORDINARY.refused("hundredths", BAD, x -> x.onPath(1, 0, 9, 101));
        ORDINARY.refused("end", BAD, x -> x.onPath(1, 1, 1, 0));
        ORDINARY.refused("year not within", BAD, x -> x.onPath(3, 0, 2, 0));
    }

    @Says(promise = 19, words = WORDS)
    static void issue() {
        ORDINARY.refused("owner", UNKNOWN, x -> x.issue(5, 3));
        ORDINARY.refused("n", BAD, x -> x.issue(0, 0));
        ORDINARY.refused("n", BAD, x -> x.issue(0, 20001));
        ORDINARY.refused("too many by one", FULL, x -> x.issue(2, 19986));
        new Twins(Ledgers::withAllSerials).refused("serials", FULL, x -> x.issue(0, 1));
    }

    @Says(promise = 20, words = WORDS)
    static void move() {
        ORDINARY.refused("owner", UNKNOWN, x -> x.move(9, 2, 5));
        ORDINARY.refused("n", BAD, x -> x.move(9, 0, 1));
        ORDINARY.refused("n", BAD, x -> x.move(9, -1, 1));
        ORDINARY.refused("the first is not issued", UNKNOWN, x -> x.move(0, 2, 0));
        ORDINARY.refused("the last is not issued", UNKNOWN, x -> x.move(9, 8, 1));
        ORDINARY.refused("so many that numbers wrap around", UNKNOWN, x -> x.move(9, Integer.MAX_VALUE, 1));
        ORDINARY.refused("the first is used", STATE, x -> x.move(4, 4, 0));
        ORDINARY.refused("the last is used", STATE, x -> x.move(1, 2, 0));
    }

    @Says(promise = 21, words = WORDS)
    static void use() {
        ORDINARY.refused("row", UNKNOWN, x -> x.use(9, 1, 4));
        ORDINARY.refused("n", BAD, x -> x.use(9, 0, 3));
        ORDINARY.refused("n", BAD, x -> x.use(9, -1, 3));
        ORDINARY.refused("the first is not issued", UNKNOWN, x -> x.use(0, 2, 0));
        ORDINARY.refused("the last is not issued", UNKNOWN, x -> x.use(15, 2, 0));
        ORDINARY.refused("so many that numbers wrap around", UNKNOWN, x -> x.use(9, Integer.MAX_VALUE, 3));
        ORDINARY.refused("the first is used", STATE, x -> x.use(4, 2, 0));
        ORDINARY.refused("the last is used", STATE, x -> x.use(1, 2, 0));
        ORDINARY.refused("not of power", STATE, x -> x.use(9, 1, 1));
        ORDINARY.refused("of another", STATE, x -> x.use(9, 1, 0));
        ORDINARY.refused("the last is another's", STATE, x -> x.use(8, 2, 0));
    }

    @Says(promise = 21, words = WORDS)
    static void useMoreThanTheAmount() {
        new Twins(RefusalsTest::withASmallRow).refused("one more", FULL, x -> x.use(9, 2, 4));
        new Twins(RefusalsTest::withACoveredRow).refused("one more", FULL, x -> x.use(10, 1, 4));
    }

    @Says(promise = 22, words = WORDS)
    static void owner() {
        ORDINARY.refused("serial", UNKNOWN, x -> x.owner(16));
        ORDINARY.refused("serial", UNKNOWN, x -> x.owner(0));
    }

    @Says(promise = 23, words = WORDS)
    static void usedFor() {
        ORDINARY.refused("serial", UNKNOWN, x -> x.usedFor(16));
        ORDINARY.refused("serial", UNKNOWN, x -> x.usedFor(0));
    }

    @Says(promise = 24, words = WORDS)
    static void free() {
        ORDINARY.refused("owner", UNKNOWN, x -> x.free(5));
    }

    @Says(promise = 26, words = WORDS)
    static void run() {
        ORDINARY.refused("run", UNKNOWN, x -> x.run(5, 0));
        ORDINARY.refused("what", BAD, x -> x.run(0, 4));
    }

    @Says(promise = 27, words = WORDS)
    static void count() {
        ORDINARY.refused("what", BAD, x -> x.count(5));
    }

    private static SmokeLedger withASmallRow() {
        SmokeLedger x = Ledgers.ordinary();
        Due.is("row", x.row(0, 1, 1, 0, NONE), 4);
        return x;
    }

    private static SmokeLedger withACoveredRow() {
        SmokeLedger x = withASmallRow();
        Due.is("use", x.use(9, 1, 4), 1);
        return x;
    }
}
