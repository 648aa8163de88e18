import java.util.Arrays;

/**
 * A group's smoke: units and their shares, rows and factors, totals, certificates.
 * Every refusal is an answer (UNKNOWN, BAD, STATE, FULL); no call throws.
 */
public final class SmokeLedger {
    public static final int UNKNOWN = -1, BAD = -2, STATE = -3, FULL = -4, NONE = -9;

    private static final int GROUP = 0;
    private static final int MAX_UNITS = 10;
    private static final int MAX_HOLDINGS = 100;
    private static final int MAX_STEPS = 3;
    private static final int WHOLE = 100;
    private static final long WHOLE_SHARE = 1000000L;
    private static final int DAYS = 3650;
    private static final int DAYS_OF_YEAR = 365;
    private static final int YEARS = 10;
    private static final int KINDS = 4;
    private static final int POWER = 1;
    private static final int MAX_ROWS = 200;
    private static final int MAX_AMOUNT = 100000;
    private static final int MAX_VERSIONS = 80;
    private static final int MAX_FACTOR = 1000;
    private static final int MAX_SERIALS = 20000;
    private static final int FIRST_ROOM_FOR_RUNS = 16;

    private final Holdings holdings;
    private final Rows rows;
    private final Factors factors;
    private final Serials serials;
    private int units;

    public SmokeLedger() {
        holdings = new Holdings();
        rows = new Rows();
        factors = new Factors();
        serials = new Serials();
        units = 1;
    }

    // ---- units, shares

    public int unit() {
        if (units >= MAX_UNITS) {
            return FULL;
        }
        units++;
        return units - 1;
    }

    public int hold(int a, int b, int hundredths, int day) {
        if (!isUnit(a) || !isUnit(b)) {
            return UNKNOWN;
        }
        if (!isHundredths(hundredths) || !isDay(day)) {
            return BAD;
        }
        if (a == b || (hundredths > 0 && !holdings.mayTie(a, b))) {
            return STATE;
        }
        return holdings.tell(a, b, hundredths, day);
    }

    public int holds(int a, int b, int day) {
        if (!isUnit(a) || !isUnit(b)) {
            return UNKNOWN;
        }
        return isDay(day) ? holdings.heldOn(a, b, day) : BAD;
    }

    public long share(int unit, int day) {
        if (!isUnit(unit)) {
            return UNKNOWN;
        }
        return isDay(day) ? holdings.shareOn(unit, day) : BAD;
    }

    public long days(int unit, int from, int to) {
        if (!isUnit(unit)) {
            return UNKNOWN;
        }
        if (!isDay(from) || !isDay(to) || to < from) {
            return BAD;
        }
        return holdings.sharesSummed(unit, from, to);
    }

    // ---- rows, factors

    public int row(int unit, int kind, int amount, int day, int seller) {
        if (!isUnit(unit) || (seller != NONE && !isUnit(seller))) {
            return UNKNOWN;
        }
        if (!isKind(kind) || amount < 1 || amount > MAX_AMOUNT || !isDay(day)) {
            return BAD;
        }
        if (seller == unit) {
            return STATE;
        }
        return rows.add(unit, kind, amount, day, seller);
    }

    public int told(int row, int what) {
        if (!isRow(row)) {
            return UNKNOWN;
        }
        switch (what) {
            case 0: return rows.unit[row];
            case 1: return rows.kind[row];
            case 2: return rows.amount[row];
            case 3: return rows.day[row];
            case 4: return rows.seller[row];
            case 5: return isDouble(row, rows.day[row]) ? 1 : 0;
            case 6: return rows.covered[row];
            default: return BAD;
        }
    }

    public int factor(int kind, int year, int low, int high) {
        if (!isKind(kind) || !isYear(year) || low < 0 || low > high || high > MAX_FACTOR) {
            return BAD;
        }
        return factors.add(kind, year, low, high);
    }

    public int factorAs(int kind, int year, int as, boolean high) {
        if (!isAsOf(as)) {
            return UNKNOWN;
        }
        if (!isKind(kind) || !isYear(year)) {
            return BAD;
        }
        return factors.endOf(factors.versionFor(kind, year, as), high);
    }

    public long tons(int row, int as, boolean market, boolean high) {
        if (!isRow(row) || !isAsOf(as)) {
            return UNKNOWN;
        }
        return tonsOf(row, new Way(as, market, false, high));
    }

    public int changed(int year, int one, int two) {
        if (!isAsOf(one) || !isAsOf(two)) {
            return UNKNOWN;
        }
        if (!isYear(year)) {
            return BAD;
        }
        int found = 0;
        for (int row = 0; row < rows.size; row++) {
            if (isChanged(row, year, one, two)) {
                found++;
            }
        }
        return found;
    }

    public int change(int i, int year, int one, int two) {
        if (!isAsOf(one) || !isAsOf(two)) {
            return UNKNOWN;
        }
        if (!isYear(year)) {
            return BAD;
        }
        int found = 0;
        for (int row = 0; row < rows.size; row++) {
            if (isChanged(row, year, one, two)) {
                if (found == i) {
                    return row;
                }
                found++;
            }
        }
        return NONE;
    }

    // ---- totals

    public long total(int year, int as, boolean market, boolean once, boolean high) {
        if (!isYear(year)) {
            return BAD;
        }
        if (!isAsOf(as)) {
            return UNKNOWN;
        }
        return totalOf(NONE, year, NONE, new Way(as, market, once, high));
    }

    public long anew(int year, int day, int as, boolean market, boolean once, boolean high) {
        if (!isYear(year) || !isDay(day)) {
            return BAD;
        }
        if (!isAsOf(as)) {
            return UNKNOWN;
        }
        return totalOf(NONE, year, day, new Way(as, market, once, high));
    }

    public long part(int unit, int year, int as, boolean market, boolean once, boolean high) {
        if (!isUnit(unit)) {
            return UNKNOWN;
        }
        if (!isYear(year)) {
            return BAD;
        }
        if (!isAsOf(as)) {
            return UNKNOWN;
        }
        return totalOf(unit, year, NONE, new Way(as, market, once, high));
    }

    public int doubles(int year) {
        if (!isYear(year)) {
            return BAD;
        }
        int found = 0;
        for (int row = 0; row < rows.size; row++) {
            if (rows.isOfYear(row, year) && isDouble(row, rows.day[row])) {
                found++;
            }
        }
        return found;
    }

    public int onPath(int year, int base, int end, int hundredths) {
        if (!isYear(year) || !isYear(base) || !isYear(end) || !isHundredths(hundredths)) {
            return BAD;
        }
        if (end <= base || year < base || year > end) {
            return BAD;
        }
        long low = totalOf(NONE, year, NONE, new Way(NONE, true, true, false));
        long high = totalOf(NONE, base, NONE, new Way(NONE, true, true, true));
        if (low == NONE || high == NONE) {
            return NONE;
        }
        long parts = (long) WHOLE * (end - base);
        long left = parts - (long) hundredths * (year - base);
        return low <= cutPart(high, left, parts) ? 1 : 0;
    }

    // ---- certificates

    public int issue(int owner, int n) {
        if (!isUnit(owner)) {
            return UNKNOWN;
        }
        if (n < 1 || n > MAX_SERIALS) {
            return BAD;
        }
        return serials.add(owner, n);
    }

    public int move(int from, int n, int owner) {
        if (!isUnit(owner)) {
            return UNKNOWN;
        }
        if (n < 1) {
            return BAD;
        }
        if (!serials.areIssued(from, n)) {
            return UNKNOWN;
        }
        if (serials.usedAmong(from, n) > 0) {
            return STATE;
        }
        int changing = n - serials.ownedAmong(from, n, owner);
        serials.mark(from, n, owner, NONE);
        return changing;
    }

    public int use(int from, int n, int row) {
        if (!isRow(row)) {
            return UNKNOWN;
        }
        if (n < 1) {
            return BAD;
        }
        if (!serials.areIssued(from, n)) {
            return UNKNOWN;
        }
        int unit = rows.unit[row];
        if (serials.usedAmong(from, n) > 0 || rows.kind[row] != POWER
                || serials.ownedAmong(from, n, unit) < n) {
            return STATE;
        }
        if (n > rows.uncovered(row)) {
            return FULL;
        }
        serials.mark(from, n, unit, row);
        rows.covered[row] += n;
        return rows.covered[row];
    }

    public int owner(int serial) {
        return serials.areIssued(serial, 1) ? serials.owner[serials.runWith(serial)] : UNKNOWN;
    }

    public int usedFor(int serial) {
        return serials.areIssued(serial, 1) ? serials.row[serials.runWith(serial)] : UNKNOWN;
    }

    public int free(int owner) {
        return isUnit(owner) ? serials.unusedOf(owner) : UNKNOWN;
    }

    public int runs() {
        return serials.size;
    }

    public int run(int i, int what) {
        if (i < 0 || i >= serials.size) {
            return UNKNOWN;
        }
        switch (what) {
            case 0: return serials.first[i];
            case 1: return serials.lengthOf(i);
            case 2: return serials.owner[i];
            case 3: return serials.row[i];
            default: return BAD;
        }
    }

    public int count(int what) {
        switch (what) {
            case 0: return units;
            case 1: return rows.size;
            case 2: return factors.size;
            case 3: return serials.issued;
            case 4: return holdings.size;
            default: return BAD;
        }
    }

    // ---- what is known, what is within bounds

    private boolean isUnit(int unit) {
        return unit >= 0 && unit < units;
    }

    private boolean isRow(int row) {
        return row >= 0 && row < rows.size;
    }

    private boolean isAsOf(int as) {
        return as == NONE || (as >= 0 && as < factors.size);
    }

    private static boolean isHundredths(int hundredths) {
        return hundredths >= 0 && hundredths <= WHOLE;
    }

    private static boolean isDay(int day) {
        return day >= 0 && day < DAYS;
    }

    private static boolean isYear(int year) {
        return year >= 0 && year < YEARS;
    }

    private static boolean isKind(int kind) {
        return kind >= 0 && kind < KINDS;
    }

    // ---- counting

    private boolean isDouble(int row, int day) {
        int seller = rows.seller[row];
        return seller != NONE
                && holdings.shareOn(rows.unit[row], day) > 0
                && holdings.shareOn(seller, day) > 0;
    }

    private int versionOf(int row, int as) {
        return factors.versionFor(rows.kind[row], rows.yearOf(row), as);
    }

    private long tonsOf(int row, Way way) {
        int factor = factors.endOf(versionOf(row, way.as), way.high);
        if (factor == NONE) {
            return NONE;
        }
        boolean lessCovered = way.market && rows.kind[row] == POWER;
        int amount = lessCovered ? rows.uncovered(row) : rows.amount[row];
        return (long) amount * factor;
    }

    // An AMOUNT is never 0, so other FACTORS and other TONS are the same thing.
    private boolean isChanged(int row, int year, int one, int two) {
        if (!rows.isOfYear(row, year)) {
            return false;
        }
        int first = versionOf(row, one);
        int second = versionOf(row, two);
        return factors.endOf(first, false) != factors.endOf(second, false)
                || factors.endOf(first, true) != factors.endOf(second, true);
    }

    /** Over the rows of one unit (NONE: of all), by the shares of one day (NONE: of each row's own). */
    private long totalOf(int unit, int year, int day, Way way) {
        long sum = 0;
        for (int row = 0; row < rows.size; row++) {
            if (!rows.isOfYear(row, year) || (unit != NONE && rows.unit[row] != unit)) {
                continue;
            }
            int when = day == NONE ? rows.day[row] : day;
            long share = holdings.shareOn(rows.unit[row], when);
            if (share == 0 || (way.once && isDouble(row, when))) {
                continue;
            }
            long tons = tonsOf(row, way);
            if (tons == NONE) {
                return NONE;
            }
            sum += tons * share;
        }
        return sum;
    }

    // The whole is split before it is multiplied: a big TOTAL times the parts would be beyond a long.
    private static long cutPart(long whole, long left, long parts) {
        if (parts <= 0) {
            return 0;
        }
        return whole / parts * left + whole % parts * left / parts;
    }

    /** A way of counting: as of which version, by certificates or not, doubles left out or not, which end. */
    private static final class Way {
        final int as;
        final boolean market;
        final boolean once;
        final boolean high;

        Way(int as, boolean market, boolean once, boolean high) {
            this.as = as;
            this.market = market;
            this.once = once;
            this.high = high;
        }
    }

    /**
     * Holdings, sorted by days. SPAN s is the time in which just the first s of them have begun:
     * within it all shares stay the same, so they are made once for each span and kept.
     */
    private static final class Holdings {
        final int[] holder = new int[MAX_HOLDINGS];
        final int[] held = new int[MAX_HOLDINGS];
        final int[] hundredths = new int[MAX_HOLDINGS];
        final int[] day = new int[MAX_HOLDINGS];
        int size;
        final int[] tied = new int[MAX_UNITS];
        final boolean[] spanIsMade = new boolean[MAX_HOLDINGS + 1];
        final long[] spanShares = new long[(MAX_HOLDINGS + 1) * MAX_UNITS];
        final int[] matrix = new int[MAX_UNITS * MAX_UNITS];
        final long[] reached = new long[MAX_UNITS];
        final long[] reachedNext = new long[MAX_UNITS];

        Holdings() {
            size = 0;
        }

        int tell(int a, int b, int parts, int from) {
            int before = heldOn(a, b, from);
            int place = placeOf(a, b, from);
            if (place == NONE) {
                if (size >= MAX_HOLDINGS) {
                    return FULL;
                }
                place = spanOn(from);
                makeRoomAt(place);
                holder[place] = a;
                held[place] = b;
                day[place] = from;
            }
            hundredths[place] = parts;
            forgetSpans();
            return before;
        }

        int heldOn(int a, int b, int when) {
            for (int i = spanOn(when) - 1; i >= 0; i--) {
                if (holder[i] == a && held[i] == b) {
                    return hundredths[i];
                }
            }
            return 0;
        }

        /** Whether a may hold some of b, as far as rings and long chains go. */
        boolean mayTie(int a, int b) {
            gatherTies();
            tied[a] |= 1 << b;
            return !isTiedTo(b, a) && !isTooDeep();
        }

        long shareOn(int unit, int when) {
            return shareIn(spanOn(when), unit);
        }

        long sharesSummed(int unit, int from, int to) {
            long sum = 0;
            int next = from;
            for (int span = spanOn(from); span <= size; span++) {
                int last = span < size ? Math.min(to, day[span] - 1) : to;
                if (last >= next) {
                    sum += shareIn(span, unit) * (last - next + 1);
                    next = last + 1;
                }
            }
            return sum;
        }

        private int placeOf(int a, int b, int from) {
            for (int i = 0; i < size; i++) {
                if (holder[i] == a && held[i] == b && day[i] == from) {
                    return i;
                }
            }
            return NONE;
        }

        private int spanOn(int when) {
            int span = 0;
            while (span < size && day[span] <= when) {
                span++;
            }
            return span;
        }

        private void makeRoomAt(int place) {
            int behind = size - place;
            System.arraycopy(holder, place, holder, place + 1, behind);
            System.arraycopy(held, place, held, place + 1, behind);
            System.arraycopy(hundredths, place, hundredths, place + 1, behind);
            System.arraycopy(day, place, day, place + 1, behind);
            size++;
        }

        private void gatherTies() {
            Arrays.fill(tied, 0);
            for (int i = 0; i < size; i++) {
                if (hundredths[i] > 0) {
                    tied[holder[i]] |= 1 << held[i];
                }
            }
        }

        private int tiedToAnyOf(int unitBits) {
            int found = 0;
            for (int unit = 0; unit < MAX_UNITS; unit++) {
                if ((unitBits & 1 << unit) != 0) {
                    found |= tied[unit];
                }
            }
            return found;
        }

        private boolean isTiedTo(int from, int to) {
            int seen = 1 << from;
            for (int step = 1; step < MAX_UNITS; step++) {
                seen |= tiedToAnyOf(seen);
            }
            return (seen & 1 << to) != 0;
        }

        private boolean isTooDeep() {
            int level = 1 << GROUP;
            for (int step = 0; step <= MAX_STEPS; step++) {
                level = tiedToAnyOf(level);
            }
            return level != 0;
        }

        private void forgetSpans() {
            for (int span = 0; span <= MAX_HOLDINGS; span++) {
                spanIsMade[span] = false;
            }
        }

        private long shareIn(int span, int unit) {
            if (!spanIsMade[span]) {
                makeSpan(span);
            }
            return spanShares[span * MAX_UNITS + unit];
        }

        private void makeSpan(int span) {
            Arrays.fill(matrix, 0);
            for (int i = 0; i < span; i++) {
                matrix[holder[i] * MAX_UNITS + held[i]] = hundredths[i];
            }
            Arrays.fill(reached, 0);
            reached[GROUP] = WHOLE_SHARE;
            int start = span * MAX_UNITS;
            System.arraycopy(reached, 0, spanShares, start, MAX_UNITS);
            for (int step = 0; step < MAX_STEPS; step++) {
                lookOneStepAhead();
                for (int unit = 0; unit < MAX_UNITS; unit++) {
                    reached[unit] = reachedNext[unit];
                    spanShares[start + unit] += reached[unit];
                }
            }
            spanIsMade[span] = true;
        }

        // No cut is lost: what is reached after k steps is a multiple of 100 to the power of (3 - k).
        private void lookOneStepAhead() {
            for (int to = 0; to < MAX_UNITS; to++) {
                long sum = 0;
                for (int from = 0; from < MAX_UNITS; from++) {
                    sum += reached[from] * matrix[from * MAX_UNITS + to];
                }
                reachedNext[to] = sum / WHOLE;
            }
        }
    }

    private static final class Rows {
        final int[] unit = new int[MAX_ROWS];
        final int[] kind = new int[MAX_ROWS];
        final int[] amount = new int[MAX_ROWS];
        final int[] day = new int[MAX_ROWS];
        final int[] seller = new int[MAX_ROWS];
        final int[] covered = new int[MAX_ROWS];
        int size;

        Rows() {
            size = 0;
        }

        int add(int ofUnit, int ofKind, int howMuch, int onDay, int from) {
            if (size >= MAX_ROWS) {
                return FULL;
            }
            unit[size] = ofUnit;
            kind[size] = ofKind;
            amount[size] = howMuch;
            day[size] = onDay;
            seller[size] = from;
            size++;
            return size - 1;
        }

        int yearOf(int row) {
            return day[row] / DAYS_OF_YEAR;
        }

        boolean isOfYear(int row, int year) {
            return yearOf(row) == year;
        }

        int uncovered(int row) {
            return amount[row] - covered[row];
        }
    }

    private static final class Factors {
        final int[] kind = new int[MAX_VERSIONS];
        final int[] year = new int[MAX_VERSIONS];
        final int[] low = new int[MAX_VERSIONS];
        final int[] high = new int[MAX_VERSIONS];
        int size;

        Factors() {
            size = 0;
        }

        int add(int ofKind, int fromYear, int lowEnd, int highEnd) {
            if (size >= MAX_VERSIONS) {
                return FULL;
            }
            kind[size] = ofKind;
            year[size] = fromYear;
            low[size] = lowEnd;
            high[size] = highEnd;
            size++;
            return size - 1;
        }

        /** NONE: the factor lacks. */
        int versionFor(int ofKind, int ofYear, int as) {
            int end = as == NONE ? size : as + 1;
            int best = NONE;
            for (int i = 0; i < end; i++) {
                if (kind[i] == ofKind && year[i] <= ofYear && (best == NONE || year[i] >= year[best])) {
                    best = i;
                }
            }
            return best;
        }

        int endOf(int version, boolean atHigh) {
            if (version == NONE) {
                return NONE;
            }
            return atHigh ? high[version] : low[version];
        }
    }

    /**
     * Serials, kept as their runs: run i goes from first[i] up to the next one's first, or to the
     * last that is issued. Calls split few runs, so this needs far less room than a field a serial.
     */
    private static final class Serials {
        int[] first = new int[FIRST_ROOM_FOR_RUNS];
        int[] owner = new int[FIRST_ROOM_FOR_RUNS];
        int[] row = new int[FIRST_ROOM_FOR_RUNS];
        int size;
        int issued;

        Serials() {
            size = 0;
            issued = 0;
        }

        int add(int to, int n) {
            if (n > MAX_SERIALS - issued) {
                return FULL;
            }
            int start = issued + 1;
            if (size == 0 || owner[size - 1] != to || row[size - 1] != NONE) {
                insertRun(size, start, to, NONE);
            }
            issued += n;
            return start;
        }

        boolean areIssued(int from, int n) {
            return from >= 1 && from <= issued && n <= issued - from + 1;
        }

        int runWith(int serial) {
            int i = 0;
            while (i + 1 < size && first[i + 1] <= serial) {
                i++;
            }
            return i;
        }

        int lengthOf(int i) {
            return endOf(i) - first[i];
        }

        int usedAmong(int from, int n) {
            int found = 0;
            for (int i = 0; i < size; i++) {
                if (row[i] != NONE) {
                    found += sharedWith(i, from, n);
                }
            }
            return found;
        }

        int ownedAmong(int from, int n, int by) {
            int found = 0;
            for (int i = 0; i < size; i++) {
                if (owner[i] == by) {
                    found += sharedWith(i, from, n);
                }
            }
            return found;
        }

        int unusedOf(int by) {
            int found = 0;
            for (int i = 0; i < size; i++) {
                if (owner[i] == by && row[i] == NONE) {
                    found += lengthOf(i);
                }
            }
            return found;
        }

        void mark(int from, int n, int newOwner, int newRow) {
            int begin = splitBefore(from);
            int end = splitBefore(from + n);
            for (int i = begin; i < end; i++) {
                owner[i] = newOwner;
                row[i] = newRow;
            }
            joinAlike();
        }

        private int endOf(int i) {
            return i + 1 < size ? first[i + 1] : issued + 1;
        }

        private int sharedWith(int i, int from, int n) {
            return Math.max(0, Math.min(endOf(i), from + n) - Math.max(first[i], from));
        }

        /** Which run begins with the serial, once its run is split there. */
        private int splitBefore(int serial) {
            if (serial > issued) {
                return size;
            }
            int i = runWith(serial);
            if (first[i] == serial) {
                return i;
            }
            insertRun(i + 1, serial, owner[i], row[i]);
            return i + 1;
        }

        private void insertRun(int place, int start, int by, int usedRow) {
            if (size >= first.length) {
                first = Arrays.copyOf(first, size * 2);
                owner = Arrays.copyOf(owner, size * 2);
                row = Arrays.copyOf(row, size * 2);
            }
            int behind = size - place;
            System.arraycopy(first, place, first, place + 1, behind);
            System.arraycopy(owner, place, owner, place + 1, behind);
            System.arraycopy(row, place, row, place + 1, behind);
            first[place] = start;
            owner[place] = by;
            row[place] = usedRow;
            size++;
        }

        private void joinAlike() {
            int kept = 0;
            for (int i = 0; i < size; i++) {
                if (kept == 0 || owner[kept - 1] != owner[i] || row[kept - 1] != row[i]) {
                    first[kept] = first[i];
                    owner[kept] = owner[i];
                    row[kept] = row[i];
                    kept++;
                }
            }
            size = kept;
        }
    }
}
