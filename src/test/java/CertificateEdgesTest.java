/**
 * The boundary cases of the promises 19 to 27, a test for each sentence: issue, move, use, owner,
 * usedFor, free, runs, run, count.
 */
public final class CertificateEdgesTest {
    private static final int UNKNOWN = -1, BAD = -2, STATE = -3, FULL = -4, NONE = -9;
    private static final int LEAST = Integer.MIN_VALUE, MOST = Integer.MAX_VALUE;
    private static final int FUEL = 0, POWER = 1, GOODS = 2, TRIPS = 3;

    public static void main(String[] args) throws IllegalAccessException {
        Sentences.runAll(CertificateEdgesTest.class);
    }

    // ---- promise 19, issue

    @Says(promise = 19, words = "UNKNOWN")
    static void issueToNoUnit() {
        SmokeLedger x = Ledgers.withUnits(3);
        for (int owner : new int[] {-1, 3, NONE, 10, LEAST, MOST}) {
            Due.is("owner " + owner, x.issue(owner, 1), UNKNOWN);
        }
        Due.is("serials", x.count(3), 0);
        Due.is("the first", x.issue(0, 1), 1);
        Due.is("the last", x.issue(2, 1), 2);
    }

    @Says(promise = 19, words = "BAD: n is not 1 .. 20000")
    static void issueTooFewOrTooMany() {
        SmokeLedger x = new SmokeLedger();
        for (int n : new int[] {0, -1, 20001, NONE, LEAST, MOST}) {
            Due.is("n " + n, x.issue(0, n), BAD);
        }
        Due.is("serials", x.count(3), 0);
        Due.is("1", x.issue(0, 1), 1);
        Due.is("serials", x.count(3), 1);
        SmokeLedger y = new SmokeLedger();
        Due.is("20000", y.issue(0, 20000), 1);
        Due.is("serials", y.count(3), 20000);
    }

    @Says(promise = 19, words = "FULL.")
    static void serialsAreTwentyThousandAtMost() {
        SmokeLedger x = Ledgers.withUnits(2);
        Due.is("some", x.issue(0, 19990), 1);
        Due.is("eleven more", x.issue(1, 11), FULL);
        Due.is("20000 more", x.issue(1, 20000), FULL);
        Due.is("serials", x.count(3), 19990);
        Due.is("ten more", x.issue(1, 10), 19991);
        Due.is("one more", x.issue(1, 1), FULL);
        Due.is("serials", x.count(3), 20000);
        Due.is("the last is there", x.owner(20000), 1);
        Due.is("one more is not", x.owner(20001), UNKNOWN);
    }

    @Says(promise = 19, words = "FULL.")
    static void serialsOneByOneToTheLast() {
        SmokeLedger x = new SmokeLedger();
        Due.is("all but one", x.issue(0, 19999), 1);
        Due.is("two more", x.issue(0, 2), FULL);
        Due.is("one more", x.issue(0, 1), 20000);
        Due.is("and one more", x.issue(0, 1), FULL);
    }

    @Says(promise = 19, words = "Of several what is told first.")
    static void issueOrderOfRefusals() {
        SmokeLedger x = Ledgers.withAllSerials();
        Due.is("owner, and n", x.issue(2, 0), UNKNOWN);
        Due.is("owner, and n", x.issue(-1, 20001), UNKNOWN);
        Due.is("owner, and full", x.issue(2, 1), UNKNOWN);
        Due.is("n, and full", x.issue(0, 0), BAD);
        Due.is("n, and full", x.issue(0, 20001), BAD);
        Due.is("full alone", x.issue(0, 20000), FULL);
        Due.is("full alone", x.issue(0, 1), FULL);
    }

    @Says(promise = 19, words = "behind all others: the first of them")
    static void issueBehindAllOthers() {
        SmokeLedger x = Ledgers.withUnits(2);
        Due.is("the first", x.issue(1, 3), 1);
        Due.is("behind three", x.issue(0, 1), 4);
        Due.is("behind four", x.issue(1, 1), 5);
        Due.is("the last of the first", x.owner(3), 1);
        Due.is("the second", x.owner(4), 0);
        Due.is("the third", x.owner(5), 1);
    }

    // ---- promise 20, move

    @Says(promise = 20, words = "UNKNOWN: owner")
    static void moveToNoUnit() {
        SmokeLedger x = Ledgers.ordinary();
        for (int owner : new int[] {-1, 5, NONE, 10, LEAST, MOST}) {
            Due.is("owner " + owner, x.move(9, 1, owner), UNKNOWN);
        }
        Due.is("the last", x.move(9, 1, 4), 1);
        Due.is("the first", x.move(9, 1, 0), 1);
    }

    @Says(promise = 20, words = "BAD: n is below 1")
    static void moveNone() {
        SmokeLedger x = Ledgers.ordinary();
        for (int n : new int[] {0, -1, NONE, LEAST}) {
            Due.is("n " + n, x.move(9, n, 1), BAD);
        }
        Due.is("1", x.move(9, 1, 1), 1);
    }

    @Says(promise = 20, words = "UNKNOWN: one of them is not issued")
    static void moveWhatIsNotIssued() {
        SmokeLedger x = Ledgers.ordinary();
        for (int from : new int[] {0, -1, 16, NONE, 20001, LEAST, MOST}) {
            Due.is("one from " + from, x.move(from, 1, 1), UNKNOWN);
        }
        Due.is("from 0 on", x.move(0, 2, 2), UNKNOWN);
        Due.is("one behind the last", x.move(15, 2, 1), UNKNOWN);
        Due.is("one behind the last", x.move(9, 8, 1), UNKNOWN);
        Due.is("to the last", x.move(9, 7, 1), 7);
        Due.is("the first", x.move(1, 1, 0), 1);
        Due.is("the last", x.move(15, 1, 0), 1);
        Due.is("none is issued", new SmokeLedger().move(1, 1, 0), UNKNOWN);
    }

    @Says(promise = 20, words = "UNKNOWN: one of them is not issued")
    static void moveSoManyThatNumbersWrapAround() {
        SmokeLedger x = Ledgers.ordinary();
        for (int from : new int[] {1, 2, 15, 16, MOST - 1, MOST, 0, -1, LEAST, LEAST + 1}) {
            Due.is("most from " + from, x.move(from, MOST, 1), UNKNOWN);
            Due.is("nearly most from " + from, x.move(from, MOST - 14, 1), UNKNOWN);
        }
        Due.is("15 from the most", x.move(MOST, 15, 1), UNKNOWN);
        Due.is("15 from the least", x.move(LEAST, 15, 1), UNKNOWN);
        Due.is("runs", x.runs(), 5);
    }

    @Says(promise = 20, words = "STATE: one of them is USED")
    static void moveWhatIsUsed() {
        SmokeLedger x = Ledgers.ordinary();
        for (int serial = 2; serial <= 4; serial++) {
            Due.is("serial " + serial, x.move(serial, 1, 0), STATE);
            Due.is("to its owner", x.move(serial, 1, 1), STATE);
        }
        Due.is("the first of the used at the end", x.move(1, 2, 0), STATE);
        Due.is("the last of the used at the start", x.move(4, 2, 0), STATE);
        Due.is("all", x.move(1, 15, 0), STATE);
        Due.is("just before", x.move(1, 1, 0), 1);
        Due.is("just behind", x.move(5, 1, 0), 1);
    }

    @Says(promise = 20, words = "Of several what is told first.")
    static void moveOrderOfRefusals() {
        SmokeLedger x = Ledgers.ordinary();
        Due.is("owner, and n", x.move(9, 0, 5), UNKNOWN);
        Due.is("owner, and used", x.move(2, 1, 5), UNKNOWN);
        Due.is("n, and not issued", x.move(0, 0, 1), BAD);
        Due.is("n, and not issued", x.move(16, -1, 1), BAD);
        Due.is("n, and used", x.move(2, 0, 1), BAD);
        Due.is("not issued, and used", x.move(4, 13, 1), UNKNOWN);
        Due.is("not issued, and used", x.move(0, 4, 1), UNKNOWN);
    }

    @Says(promise = 20, words = "how many changed theirs")
    static void moveFromNoneToAll() {
        SmokeLedger x = Ledgers.withUnits(3);
        x.issue(0, 10);
        Due.is("to their owner", x.move(1, 10, 0), 0);
        Due.is("two", x.move(3, 2, 1), 2);
        Due.is("five, of which two are there", x.move(2, 5, 1), 3);
        Due.is("all but five", x.move(1, 10, 1), 5);
        Due.is("all", x.move(1, 10, 2), 10);
        Due.is("the last alone", x.move(10, 1, 0), 1);
        Due.is("all but one", x.move(1, 10, 0), 9);
    }

    @Says(promise = 20, words = "n SERIALS from one on move")
    static void moveTouchesNoOthers() {
        SmokeLedger x = Ledgers.withUnits(2);
        x.issue(0, 5);
        x.move(2, 3, 1);
        int[] due = {0, 1, 1, 1, 0};
        for (int serial = 1; serial <= 5; serial++) {
            Due.is("owner of " + serial, x.owner(serial), due[serial - 1]);
        }
    }

    @Says(promise = 20, words = "how many changed theirs")
    static void moveTwentyThousand() {
        SmokeLedger x = Ledgers.withAllSerials();
        Due.is("all", x.move(1, 20000, 1), 12000);
        Due.is("one more", x.move(1, 20001, 1), UNKNOWN);
        Due.is("all back", x.move(1, 20000, 0), 20000);
    }

    // ---- promise 21, use

    @Says(promise = 21, words = "UNKNOWN: row")
    static void useForNoRow() {
        SmokeLedger x = Ledgers.ordinary();
        for (int row : new int[] {-1, 4, NONE, 200, LEAST, MOST}) {
            Due.is("row " + row, x.use(9, 1, row), UNKNOWN);
        }
        Due.is("the last", x.use(9, 1, 3), 1);
        Due.is("the first", x.use(5, 1, 0), 4);
    }

    @Says(promise = 21, words = "BAD: n is below 1")
    static void useNone() {
        SmokeLedger x = Ledgers.ordinary();
        for (int n : new int[] {0, -1, NONE, LEAST}) {
            Due.is("n " + n, x.use(9, n, 3), BAD);
        }
        Due.is("1", x.use(9, 1, 3), 1);
    }

    @Says(promise = 21, words = "UNKNOWN: one is not issued")
    static void useWhatIsNotIssued() {
        SmokeLedger x = new SmokeLedger();
        x.row(0, POWER, 100, 0, NONE);
        Due.is("none is issued", x.use(1, 1, 0), UNKNOWN);
        x.issue(0, 15);
        for (int from : new int[] {0, -1, 16, NONE, 20001, LEAST, MOST}) {
            Due.is("one from " + from, x.use(from, 1, 0), UNKNOWN);
        }
        Due.is("from 0 on", x.use(0, 2, 0), UNKNOWN);
        Due.is("one behind the last", x.use(15, 2, 0), UNKNOWN);
        Due.is("one behind the last", x.use(1, 16, 0), UNKNOWN);
        Due.is("the first", x.use(1, 1, 0), 1);
        Due.is("the last", x.use(15, 1, 0), 2);
        Due.is("all between", x.use(2, 13, 0), 15);
    }

    @Says(promise = 21, words = "UNKNOWN: one is not issued")
    static void useSoManyThatNumbersWrapAround() {
        SmokeLedger x = Ledgers.ordinary();
        for (int from : new int[] {1, 2, 15, 16, MOST - 1, MOST, 0, -1, LEAST, LEAST + 1}) {
            Due.is("most from " + from, x.use(from, MOST, 3), UNKNOWN);
            Due.is("nearly most from " + from, x.use(from, MOST - 14, 3), UNKNOWN);
        }
        Due.is("4 from the most", x.use(MOST, 4, 3), UNKNOWN);
        Due.is("4 from the least", x.use(LEAST, 4, 3), UNKNOWN);
        Due.is("covered", x.told(3, 6), 0);
    }

    @Says(promise = 21, words = "STATE: one is USED")
    static void useWhatIsUsed() {
        SmokeLedger x = new SmokeLedger();
        x.row(0, POWER, 100, 0, NONE);
        x.row(0, POWER, 100, 0, NONE);
        x.issue(0, 9);
        x.use(4, 3, 0);
        for (int serial = 4; serial <= 6; serial++) {
            Due.is("for its row", x.use(serial, 1, 0), STATE);
            Due.is("for another", x.use(serial, 1, 1), STATE);
        }
        Due.is("the first of the used at the end", x.use(1, 4, 1), STATE);
        Due.is("the last of the used at the start", x.use(6, 4, 1), STATE);
        Due.is("all", x.use(1, 9, 1), STATE);
        Due.is("just before", x.use(1, 3, 1), 3);
        Due.is("just behind", x.use(7, 3, 1), 6);
    }

    @Says(promise = 21, words = "or the ROW is not of POWER")
    static void useForOtherKinds() {
        SmokeLedger x = new SmokeLedger();
        x.issue(0, 1);
        for (int kind = 0; kind < 4; kind++) {
            x.row(0, kind, 1, 0, NONE);
        }
        Due.is("fuel", x.use(1, 1, FUEL), STATE);
        Due.is("goods", x.use(1, 1, GOODS), STATE);
        Due.is("trips", x.use(1, 1, TRIPS), STATE);
        Due.is("power", x.use(1, 1, POWER), 1);
    }

    @Says(promise = 21, words = "or of another UNIT than an OWNER's")
    static void useOfAnotherOwner() {
        SmokeLedger x = Ledgers.withUnits(2);
        x.hold(0, 1, 100, 0);
        x.row(0, POWER, 100, 0, 1);
        x.row(1, POWER, 100, 0, NONE);
        x.issue(0, 3);
        x.issue(1, 3);
        Due.is("of the seller", x.use(4, 1, 0), STATE);
        Due.is("of the holder", x.use(1, 1, 1), STATE);
        Due.is("the last is another's", x.use(1, 4, 0), STATE);
        Due.is("the first is another's", x.use(3, 4, 1), STATE);
        Due.is("up to the last of its own", x.use(1, 3, 0), 3);
        Due.is("from the first of its own", x.use(4, 3, 1), 3);
    }

    @Says(promise = 21, words = "or of another UNIT than an OWNER's")
    static void useOfAnOwnerThatHasMoved() {
        SmokeLedger x = Ledgers.withUnits(2);
        x.row(0, POWER, 100, 0, NONE);
        x.issue(0, 3);
        x.move(2, 1, 1);
        Due.is("one moved away", x.use(1, 3, 0), STATE);
        x.move(2, 1, 0);
        Due.is("and back", x.use(1, 3, 0), 3);
    }

    @Says(promise = 21, words = "FULL: more than its AMOUNT would be COVERED")
    static void useMoreThanTheAmount() {
        SmokeLedger x = new SmokeLedger();
        x.row(0, POWER, 5, 0, NONE);
        x.row(0, POWER, 1, 0, NONE);
        x.issue(0, 20);
        Due.is("six of five", x.use(1, 6, 0), FULL);
        Due.is("two of one", x.use(1, 2, 1), FULL);
        Due.is("one of one", x.use(20, 1, 1), 1);
        Due.is("one more", x.use(19, 1, 1), FULL);
        Due.is("three of five", x.use(3, 3, 0), 3);
        Due.is("three more", x.use(6, 3, 0), FULL);
        Due.is("two more", x.use(6, 2, 0), 5);
        Due.is("one more", x.use(1, 1, 0), FULL);
        Due.is("covered", x.told(0, 6), 5);
    }

    @Says(promise = 21, words = "FULL: more than its AMOUNT would be COVERED")
    static void useTwentyThousand() {
        SmokeLedger x = new SmokeLedger();
        x.issue(0, 20000);
        x.row(0, POWER, 19999, 0, NONE);
        x.row(0, POWER, 100000, 0, NONE);
        Due.is("of 19999", x.use(1, 20000, 0), FULL);
        Due.is("of 100000", x.use(1, 20000, 1), 20000);
        Due.is("free", x.free(0), 0);
    }

    @Says(promise = 21, words = "Of several what is told first.")
    static void useOrderOfRefusals() {
        SmokeLedger x = Ledgers.ordinary();
        Due.is("row, and n", x.use(9, 0, 4), UNKNOWN);
        Due.is("row, and used", x.use(2, 1, -1), UNKNOWN);
        Due.is("n, and not issued", x.use(0, 0, 3), BAD);
        Due.is("n, and not of power", x.use(9, 0, 1), BAD);
        Due.is("not issued, and used", x.use(4, 13, 0), UNKNOWN);
        Due.is("not issued, and not of power", x.use(16, 1, 1), UNKNOWN);
        Due.is("not issued, and another's", x.use(15, 2, 3), UNKNOWN);
        Due.is("not issued, and more than its amount", x.use(9, 8, 3), UNKNOWN);
        Due.is("used, and more than its amount", x.use(1, 8, 0), STATE);
        Due.is("not of power, and more than its amount", x.use(9, 4, 1), STATE);
        Due.is("another's, and more than its amount", x.use(9, 5, 3), STATE);
    }

    @Says(promise = 21, words = "what is COVERED of it then")
    static void useAnswersWhatIsCovered() {
        SmokeLedger x = new SmokeLedger();
        x.row(0, POWER, 3, 0, NONE);
        x.row(0, POWER, 3, 0, NONE);
        x.issue(0, 6);
        Due.is("one", x.use(1, 1, 0), 1);
        Due.is("of another", x.use(2, 2, 1), 2);
        Due.is("two more", x.use(4, 2, 0), 3);
        Due.is("told", x.told(0, 6), 3);
        Due.is("told", x.told(1, 6), 2);
    }

    // ---- promise 22, owner

    @Says(promise = 22, words = "UNKNOWN.")
    static void ownerOfNoSerial() {
        SmokeLedger x = Ledgers.withUnits(2);
        Due.is("none is issued", x.owner(1), UNKNOWN);
        x.issue(1, 7);
        for (int serial : new int[] {0, -1, 8, NONE, 20000, 20001, LEAST, MOST}) {
            Due.is("serial " + serial, x.owner(serial), UNKNOWN);
        }
        Due.is("the first", x.owner(1), 1);
        Due.is("the last", x.owner(7), 1);
    }

    @Says(promise = 22, words = "The OWNER of a SERIAL.")
    static void ownerFromTheFirstToTheLast() {
        SmokeLedger x = Ledgers.withAllSerials();
        Due.is("1", x.owner(1), 0);
        Due.is("12000", x.owner(12000), 0);
        Due.is("12001", x.owner(12001), 1);
        Due.is("20000", x.owner(20000), 1);
        x.move(12000, 2, 1);
        Due.is("11999", x.owner(11999), 0);
        Due.is("12000, moved", x.owner(12000), 1);
    }

    // ---- promise 23, usedFor

    @Says(promise = 23, words = "UNKNOWN.")
    static void usedForOfNoSerial() {
        SmokeLedger x = new SmokeLedger();
        Due.is("none is issued", x.usedFor(1), UNKNOWN);
        x.row(0, POWER, 100, 0, NONE);
        x.issue(0, 7);
        x.use(1, 7, 0);
        for (int serial : new int[] {0, -1, 8, NONE, 20000, 20001, LEAST, MOST}) {
            Due.is("serial " + serial, x.usedFor(serial), UNKNOWN);
        }
        Due.is("the first", x.usedFor(1), 0);
        Due.is("the last", x.usedFor(7), 0);
    }

    @Says(promise = 23, words = "The ROW for which it is USED; NONE.")
    static void usedForNone() {
        SmokeLedger x = new SmokeLedger();
        x.row(0, POWER, 100, 0, NONE);
        x.row(0, POWER, 100, 0, NONE);
        x.issue(0, 6);
        Due.is("not used yet", x.usedFor(3), NONE);
        x.use(2, 2, 0);
        x.use(4, 2, 1);
        int[] due = {NONE, 0, 0, 1, 1, NONE};
        for (int serial = 1; serial <= 6; serial++) {
            Due.is("serial " + serial, x.usedFor(serial), due[serial - 1]);
        }
    }

    @Says(promise = 23, words = "USED for a POWER ROW of their OWNER, once for all")
    static void usedForOnceForAll() {
        SmokeLedger x = Ledgers.withUnits(2);
        x.row(0, POWER, 100, 0, NONE);
        x.row(0, POWER, 100, 0, NONE);
        x.issue(0, 1);
        x.use(1, 1, 0);
        x.use(1, 1, 1);
        x.move(1, 1, 1);
        Due.is("its row", x.usedFor(1), 0);
        Due.is("its owner", x.owner(1), 0);
    }

    // ---- promise 24, free

    @Says(promise = 24, words = "UNKNOWN.")
    static void freeOfNoUnit() {
        SmokeLedger x = Ledgers.withUnits(3);
        x.issue(2, 4);
        for (int owner : new int[] {-1, 3, NONE, 10, LEAST, MOST}) {
            Due.is("owner " + owner, x.free(owner), UNKNOWN);
        }
        Due.is("the first", x.free(0), 0);
        Due.is("the last", x.free(2), 4);
    }

    @Says(promise = 24, words = "How many SERIALS of an OWNER are not USED.")
    static void freeFromNoneToAll() {
        SmokeLedger x = Ledgers.withUnits(2);
        Due.is("none is issued", x.free(0), 0);
        x.issue(0, 20000);
        Due.is("all", x.free(0), 20000);
        Due.is("of another", x.free(1), 0);
        x.row(0, POWER, 100000, 0, NONE);
        x.use(1, 1, 0);
        Due.is("one used", x.free(0), 19999);
        x.move(20000, 1, 1);
        Due.is("one moved", x.free(0), 19998);
        Due.is("to another", x.free(1), 1);
        x.use(2, 19998, 0);
        Due.is("all used", x.free(0), 0);
    }

    @Says(promise = 24, words = "How many SERIALS of an OWNER are not USED.")
    static void freeInEverMoreRuns() {
        SmokeLedger x = Ledgers.withUnits(2);
        x.issue(0, 1000);
        for (int i = 1; i <= 70; i++) {
            x.move(2 * i, 1, 1);
            Due.is("of the one", x.free(0), 1000 - i);
            Due.is("of the other", x.free(1), i);
        }
        x.move(2, 139, 0);
        Due.is("all back", x.free(0), 1000);
        Due.is("of the other", x.free(1), 0);
    }

    // ---- promise 25, runs

    @Says(promise = 25, words = "How many RUNS there are.")
    static void runsFromNoneToMany() {
        SmokeLedger x = Ledgers.withUnits(2);
        Due.is("none", x.runs(), 0);
        x.issue(0, 1);
        Due.is("one of one", x.runs(), 1);
        x.issue(0, 19999);
        Due.is("one of all", x.runs(), 1);
        for (int i = 1; i <= 250; i++) {
            Due.is("move", x.move(2 * i, 1, 1), 1);
            Due.is("runs", x.runs(), 2 * i + 1);
        }
    }

    @Says(promise = 25, words = "that have one OWNER")
    static void runsByOwners() {
        SmokeLedger x = Ledgers.withUnits(2);
        x.issue(0, 5);
        x.issue(0, 5);
        Due.is("of one owner, issued twice", x.runs(), 1);
        x.issue(1, 5);
        Due.is("of another owner", x.runs(), 2);
        x.move(10, 1, 1);
        Due.is("the last moved to the next", x.runs(), 2);
        x.move(1, 1, 1);
        Due.is("the first moved", x.runs(), 3);
        x.move(4, 2, 1);
        Due.is("some in the middle moved", x.runs(), 5);
        x.move(2, 8, 1);
        Due.is("all moved", x.runs(), 1);
    }

    @Says(promise = 25, words = "and are USED for one ROW, or not USED")
    static void runsByRows() {
        SmokeLedger x = new SmokeLedger();
        x.row(0, POWER, 100, 0, NONE);
        x.row(0, POWER, 100, 0, NONE);
        x.issue(0, 9);
        x.use(1, 3, 0);
        Due.is("used and not", x.runs(), 2);
        x.use(4, 3, 1);
        Due.is("used for two rows, and not", x.runs(), 3);
        x.use(8, 2, 1);
        Due.is("one between is not used", x.runs(), 4);
        x.use(7, 1, 1);
        Due.is("used for one row, by three calls", x.runs(), 2);
        x.issue(0, 1);
        Due.is("issued behind a used one", x.runs(), 3);
    }

    // ---- promise 26, run

    @Says(promise = 26, words = "UNKNOWN: there are not so many")
    static void runBeyondThem() {
        SmokeLedger x = Ledgers.withUnits(2);
        Due.is("there are none", x.run(0, 0), UNKNOWN);
        x.issue(0, 5);
        Due.is("one of one", x.run(0, 1), 5);
        Due.is("a second of one", x.run(1, 1), UNKNOWN);
        x.issue(1, 7);
        for (int i : new int[] {2, 3, 12, 20000, MOST, -1, NONE, LEAST}) {
            Due.is("run " + i, x.run(i, 1), UNKNOWN);
        }
        Due.is("the first", x.run(0, 1), 5);
        Due.is("the last", x.run(1, 1), 7);
        x.move(1, 5, 1);
        Due.is("joined: there is no second", x.run(1, 1), UNKNOWN);
    }

    @Says(promise = 26, words = "BAD.")
    static void runOfNoSuchThing() {
        SmokeLedger x = Ledgers.ordinary();
        for (int what : new int[] {-1, 4, NONE, LEAST, MOST}) {
            Due.is("what " + what, x.run(1, what), BAD);
        }
        int[] due = {2, 3, 1, 0};
        for (int what = 0; what < 4; what++) {
            Due.is("what " + what, x.run(1, what), due[what]);
        }
    }

    @Says(promise = 26, words = "Of several what is told first.")
    static void runOrderOfRefusals() {
        SmokeLedger x = Ledgers.ordinary();
        Due.is("run, and what", x.run(5, 4), UNKNOWN);
        Due.is("run, and what", x.run(-1, -1), UNKNOWN);
        Due.is("of none, and what", new SmokeLedger().run(0, 4), UNKNOWN);
    }

    @Says(promise = 26, words = "ROW (3; NONE)")
    static void runOfSerialsThatAreNotUsed() {
        SmokeLedger x = Ledgers.ordinary();
        int[] due = {NONE, 0, NONE, NONE, NONE};
        for (int i = 0; i < 5; i++) {
            Due.is("row of run " + i, x.run(i, 3), due[i]);
        }
    }

    @Says(promise = 26, words = "its first SERIAL (what = 0), how many (1)")
    static void runsHaveAllSerialsOneBehindTheOther() {
        SmokeLedger x = Ledgers.ordinary();
        int[] firsts = {1, 2, 5, 9, 13};
        int[] lengths = {1, 3, 4, 4, 3};
        int[] owners = {1, 1, 1, 0, 2};
        for (int i = 0; i < 5; i++) {
            Due.is("first of run " + i, x.run(i, 0), firsts[i]);
            Due.is("how many of run " + i, x.run(i, 1), lengths[i]);
            Due.is("owner of run " + i, x.run(i, 2), owners[i]);
        }
        x.issue(2, 19985);
        Due.is("the last grows to the last serial", x.run(4, 1), 19988);
    }

    @Says(promise = 26, words = "SERIALS one behind the other, issued, that have one OWNER and are USED for one ROW")
    static void runBehindOthersThatAreJoined() {
        SmokeLedger x = Ledgers.withUnits(2);
        x.row(0, POWER, 10, 0, NONE);
        x.row(0, POWER, 10, 0, NONE);
        x.issue(0, 9);
        x.move(2, 1, 1);
        x.use(4, 2, 0);
        x.use(6, 2, 1);
        x.move(2, 1, 0);
        int[][] due = {{1, 3, 0, NONE}, {4, 2, 0, 0}, {6, 2, 0, 1}, {8, 2, 0, NONE}};
        Due.is("runs", x.runs(), 4);
        for (int i = 0; i < 4; i++) {
            for (int what = 0; what < 4; what++) {
                Due.is("run " + i + ", " + what, x.run(i, what), due[i][what]);
            }
        }
    }

    // ---- promise 27, count

    @Says(promise = 27, words = "BAD.")
    static void countOfNoSuchThing() {
        SmokeLedger x = Ledgers.ordinary();
        for (int what : new int[] {-1, 5, NONE, LEAST, MOST}) {
            Due.is("what " + what, x.count(what), BAD);
        }
        int[] due = {5, 4, 4, 15, 4};
        for (int what = 0; what < 5; what++) {
            Due.is("what " + what, x.count(what), due[what]);
        }
    }

    @Says(promise = 27, words = "0 UNITS, 1 ROWS, 2 VERSIONS, 3 SERIALS issued, 4 HOLDINGS told.")
    static void countOfWhatIsEmpty() {
        SmokeLedger x = new SmokeLedger();
        int[] due = {1, 0, 0, 0, 0};
        for (int what = 0; what < 5; what++) {
            Due.is("what " + what, x.count(what), due[what]);
        }
    }

    @Says(promise = 27, words = "0 UNITS, 1 ROWS, 2 VERSIONS, 3 SERIALS issued, 4 HOLDINGS told.")
    static void countOfWhatIsFull() {
        SmokeLedger units = Ledgers.withUnits(10);
        units.unit();
        Due.is("units", units.count(0), 10);
        SmokeLedger rows = Ledgers.withAllRows();
        rows.row(0, FUEL, 1, 0, NONE);
        Due.is("rows", rows.count(1), 200);
        SmokeLedger versions = Ledgers.withAllVersions();
        versions.factor(FUEL, 0, 0, 0);
        Due.is("versions", versions.count(2), 80);
        SmokeLedger serials = Ledgers.withAllSerials();
        serials.issue(0, 1);
        Due.is("serials", serials.count(3), 20000);
        SmokeLedger holdings = Ledgers.withAllHoldings();
        holdings.hold(0, 2, 1, 0);
        Due.is("holdings", holdings.count(4), 100);
    }

    @Says(promise = 27, words = "4 HOLDINGS told")
    static void countOfHoldings() {
        SmokeLedger x = Ledgers.withUnits(3);
        x.hold(0, 1, 5, 10);
        Due.is("one", x.count(4), 1);
        x.hold(0, 1, 6, 10);
        Due.is("told instead: none more", x.count(4), 1);
        x.hold(0, 1, 6, 11);
        Due.is("of the next day, by the same", x.count(4), 2);
        x.hold(0, 2, 0, 10);
        Due.is("by 0", x.count(4), 3);
        x.hold(0, 1, 0, 10);
        Due.is("told instead by 0: it is told yet", x.count(4), 3);
    }

    @Says(promise = 27, words = "3 SERIALS issued")
    static void countOfSerials() {
        SmokeLedger x = Ledgers.ordinary();
        x.move(9, 1, 1);
        x.use(10, 1, 3);
        Due.is("moved and used ones too", x.count(3), 15);
    }
}
