import java.math.BigInteger;
import java.util.ArrayList;
import java.util.List;
import java.util.Map;
import java.util.TreeMap;

/** The document's ledger once more, written without any thought of speed, to compare answers with. */
final class SlowLedger {
    static final int UNKNOWN = -1, BAD = -2, STATE = -3, FULL = -4, NONE = -9;

    private int units = 1;
    /** By holder * 10 + held: what was told, by days. */
    private final Map<Integer, TreeMap<Integer, Integer>> told = new TreeMap<>();
    private final List<int[]> rows = new ArrayList<>();
    private final List<int[]> versions = new ArrayList<>();
    private final List<int[]> serials = new ArrayList<>();

    int unit() {
        return units == 10 ? FULL : units++;
    }

    int hold(int a, int b, int hundredths, int day) {
        if (noUnit(a) || noUnit(b)) return UNKNOWN;
        if (out(hundredths, 0, 100) || out(day, 0, 3649)) return BAD;
        if (a == b) return STATE;
        TreeMap<Integer, Integer> line = told.computeIfAbsent(a * 10 + b, k -> new TreeMap<>());
        Integer before = line.get(day);
        int was = held(a, b, day);
        line.put(day, hundredths);
        boolean refused = hundredths > 0 && !isFit();
        boolean full = !refused && holdingsTold() > 100;
        if (refused || full) {
            if (before == null) line.remove(day); else line.put(day, before);
            return refused ? STATE : FULL;
        }
        return was;
    }

    int holds(int a, int b, int day) {
        if (noUnit(a) || noUnit(b)) return UNKNOWN;
        if (out(day, 0, 3649)) return BAD;
        return held(a, b, day);
    }

    long share(int unit, int day) {
        if (noUnit(unit)) return UNKNOWN;
        if (out(day, 0, 3649)) return BAD;
        return shareOf(unit, day);
    }

    long days(int unit, int from, int to) {
        if (noUnit(unit)) return UNKNOWN;
        if (out(from, 0, 3649) || out(to, 0, 3649) || to < from) return BAD;
        long sum = 0;
        for (int day = from; day <= to; day++) sum += shareOf(unit, day);
        return sum;
    }

    int row(int unit, int kind, int amount, int day, int seller) {
        if (noUnit(unit) || seller != NONE && noUnit(seller)) return UNKNOWN;
        if (out(kind, 0, 3) || out(amount, 1, 100000) || out(day, 0, 3649)) return BAD;
        if (unit == seller) return STATE;
        if (rows.size() == 200) return FULL;
        rows.add(new int[] {unit, kind, amount, day, seller});
        return rows.size() - 1;
    }

    int told(int row, int what) {
        if (out(row, 0, rows.size() - 1)) return UNKNOWN;
        if (out(what, 0, 6)) return BAD;
        if (what == 5) return isDouble(row, rows.get(row)[3]) ? 1 : 0;
        if (what == 6) return covered(row);
        return rows.get(row)[what];
    }

    int factor(int kind, int year, int low, int high) {
        if (out(kind, 0, 3) || out(year, 0, 9) || out(low, 0, high) || high > 1000) return BAD;
        if (versions.size() == 80) return FULL;
        versions.add(new int[] {kind, year, low, high});
        return versions.size() - 1;
    }

    int factorAs(int kind, int year, int as, boolean high) {
        if (noVersion(as)) return UNKNOWN;
        if (out(kind, 0, 3) || out(year, 0, 9)) return BAD;
        return factorOf(kind, year, as, high);
    }

    long tons(int row, int as, boolean market, boolean high) {
        if (out(row, 0, rows.size() - 1) || noVersion(as)) return UNKNOWN;
        return tonsOf(row, as, market, high);
    }

    int changed(int year, int one, int two) {
        if (noVersion(one) || noVersion(two)) return UNKNOWN;
        if (out(year, 0, 9)) return BAD;
        return changes(year, one, two).size();
    }

    int change(int i, int year, int one, int two) {
        if (noVersion(one) || noVersion(two)) return UNKNOWN;
        if (out(year, 0, 9)) return BAD;
        List<Integer> all = changes(year, one, two);
        return out(i, 0, all.size() - 1) ? NONE : all.get(i);
    }

    long total(int year, int as, boolean market, boolean once, boolean high) {
        if (out(year, 0, 9)) return BAD;
        if (noVersion(as)) return UNKNOWN;
        return sum(NONE, year, NONE, as, market, once, high);
    }

    long anew(int year, int day, int as, boolean market, boolean once, boolean high) {
        if (out(year, 0, 9) || out(day, 0, 3649)) return BAD;
        if (noVersion(as)) return UNKNOWN;
        return sum(NONE, year, day, as, market, once, high);
    }

    long part(int unit, int year, int as, boolean market, boolean once, boolean high) {
        if (noUnit(unit)) return UNKNOWN;
        if (out(year, 0, 9)) return BAD;
        if (noVersion(as)) return UNKNOWN;
        return sum(unit, year, NONE, as, market, once, high);
    }

    int doubles(int year) {
        if (out(year, 0, 9)) return BAD;
        int found = 0;
        for (int row = 0; row < rows.size(); row++) {
            if (rows.get(row)[3] / 365 == year && isDouble(row, rows.get(row)[3])) found++;
        }
        return found;
    }

    int onPath(int year, int base, int end, int hundredths) {
        if (out(year, 0, 9) || out(base, 0, 9) || out(end, 0, 9) || out(hundredths, 0, 100)) return BAD;
        if (end <= base || out(year, base, end)) return BAD;
        long low = sum(NONE, year, NONE, NONE, true, true, false);
        long high = sum(NONE, base, NONE, NONE, true, true, true);
        if (low == NONE || high == NONE) return NONE;
        BigInteger span = BigInteger.valueOf(100L * (end - base));
        BigInteger left = span.subtract(BigInteger.valueOf((long) hundredths * (year - base)));
        return BigInteger.valueOf(low).multiply(span).compareTo(BigInteger.valueOf(high).multiply(left)) <= 0 ? 1 : 0;
    }

    int issue(int owner, int n) {
        if (noUnit(owner)) return UNKNOWN;
        if (out(n, 1, 20000)) return BAD;
        if (serials.size() + n > 20000) return FULL;
        int first = serials.size() + 1;
        for (int i = 0; i < n; i++) serials.add(new int[] {owner, NONE});
        return first;
    }

    int move(int from, int n, int owner) {
        if (noUnit(owner)) return UNKNOWN;
        if (n < 1) return BAD;
        if (notIssued(from, n)) return UNKNOWN;
        int changing = 0;
        for (int[] serial : serials.subList(from - 1, from - 1 + n)) {
            if (serial[1] != NONE) return STATE;
        }
        for (int[] serial : serials.subList(from - 1, from - 1 + n)) {
            if (serial[0] != owner) changing++;
            serial[0] = owner;
        }
        return changing;
    }

    int use(int from, int n, int row) {
        if (out(row, 0, rows.size() - 1)) return UNKNOWN;
        if (n < 1) return BAD;
        if (notIssued(from, n)) return UNKNOWN;
        if (rows.get(row)[1] != 1) return STATE;
        for (int[] serial : serials.subList(from - 1, from - 1 + n)) {
            if (serial[1] != NONE || serial[0] != rows.get(row)[0]) return STATE;
        }
        if (covered(row) + n > rows.get(row)[2]) return FULL;
        for (int[] serial : serials.subList(from - 1, from - 1 + n)) serial[1] = row;
        return covered(row);
    }

    int owner(int serial) {
        return notIssued(serial, 1) ? UNKNOWN : serials.get(serial - 1)[0];
    }

    int usedFor(int serial) {
        return notIssued(serial, 1) ? UNKNOWN : serials.get(serial - 1)[1];
    }

    int free(int owner) {
        if (noUnit(owner)) return UNKNOWN;
        int found = 0;
        for (int[] serial : serials) {
            if (serial[0] == owner && serial[1] == NONE) found++;
        }
        return found;
    }

    int runs() {
        return allRuns().size();
    }

    int run(int i, int what) {
        List<int[]> all = allRuns();
        if (out(i, 0, all.size() - 1)) return UNKNOWN;
        return out(what, 0, 3) ? BAD : all.get(i)[what];
    }

    int count(int what) {
        int[] all = {units, rows.size(), versions.size(), serials.size(), holdingsTold()};
        return out(what, 0, 4) ? BAD : all[what];
    }

    private static boolean out(int x, int low, int high) {
        return x < low || x > high;
    }

    private boolean noUnit(int unit) {
        return out(unit, 0, units - 1);
    }

    private boolean noVersion(int as) {
        return as != NONE && out(as, 0, versions.size() - 1);
    }

    private boolean notIssued(int from, int n) {
        return from < 1 || (long) from + n - 1 > serials.size();
    }

    private int holdingsTold() {
        int found = 0;
        for (TreeMap<Integer, Integer> line : told.values()) found += line.size();
        return found;
    }

    private int held(int a, int b, int day) {
        TreeMap<Integer, Integer> line = told.get(a * 10 + b);
        Map.Entry<Integer, Integer> at = line == null ? null : line.floorEntry(day);
        return at == null ? 0 : at.getValue();
    }

    private boolean everHeld(int a, int b) {
        TreeMap<Integer, Integer> line = told.get(a * 10 + b);
        return line != null && line.values().stream().anyMatch(h -> h > 0);
    }

    /** No chain of eleven units (so a ring), none of more than three holdings from the group. */
    private boolean isFit() {
        for (int unit = 0; unit < units; unit++) {
            if (longestFrom(unit, 0) > (unit == 0 ? 3 : 9)) return false;
        }
        return true;
    }

    private int longestFrom(int unit, int depth) {
        if (depth > 10) return 0;
        int best = 0;
        for (int other = 0; other < units; other++) {
            if (everHeld(unit, other)) best = Math.max(best, 1 + longestFrom(other, depth + 1));
        }
        return best;
    }

    private long shareOf(int unit, int day) {
        return unit == 0 ? 1000000 : chains(unit, day, 0).longValueExact();
    }

    /** Walks up from a unit to the group: the sum of the products, by 100 for each holding not needed. */
    private BigInteger chains(int unit, int day, int length) {
        if (unit == 0) return BigInteger.valueOf(100).pow(3 - length);
        BigInteger sum = BigInteger.ZERO;
        if (length == 3) return sum;
        for (int holder = 0; holder < units; holder++) {
            int h = held(holder, unit, day);
            if (h > 0) sum = sum.add(chains(holder, day, length + 1).multiply(BigInteger.valueOf(h)));
        }
        return sum;
    }

    private boolean isDouble(int row, int day) {
        int[] r = rows.get(row);
        return r[4] != NONE && shareOf(r[0], day) > 0 && shareOf(r[4], day) > 0;
    }

    private int covered(int row) {
        int found = 0;
        for (int[] serial : serials) {
            if (serial[1] == row) found++;
        }
        return found;
    }

    private int factorOf(int kind, int year, int as, boolean high) {
        for (int y = year; y >= 0; y--) {
            for (int v = as == NONE ? versions.size() - 1 : as; v >= 0; v--) {
                int[] version = versions.get(v);
                if (version[0] == kind && version[1] == y) return version[high ? 3 : 2];
            }
        }
        return NONE;
    }

    private long tonsOf(int row, int as, boolean market, boolean high) {
        int[] r = rows.get(row);
        int factor = factorOf(r[1], r[3] / 365, as, high);
        if (factor == NONE) return NONE;
        int amount = market && r[1] == 1 ? r[2] - covered(row) : r[2];
        return (long) amount * factor;
    }

    private List<Integer> changes(int year, int one, int two) {
        List<Integer> all = new ArrayList<>();
        for (int row = 0; row < rows.size(); row++) {
            boolean other = tonsOf(row, one, false, false) != tonsOf(row, two, false, false)
                    || tonsOf(row, one, false, true) != tonsOf(row, two, false, true);
            if (rows.get(row)[3] / 365 == year && other) all.add(row);
        }
        return all;
    }

    private long sum(int unit, int year, int day, int as, boolean market, boolean once, boolean high) {
        BigInteger sum = BigInteger.ZERO;
        for (int row = 0; row < rows.size(); row++) {
            int[] r = rows.get(row);
            if (r[3] / 365 != year || unit != NONE && r[0] != unit) continue;
            int when = day == NONE ? r[3] : day;
            if (once && isDouble(row, when)) continue;
            long share = shareOf(r[0], when);
            long tons = tonsOf(row, as, market, high);
            if (tons == NONE && share > 0) return NONE;
            if (tons != NONE) sum = sum.add(BigInteger.valueOf(tons).multiply(BigInteger.valueOf(share)));
        }
        return sum.longValueExact();
    }

    private List<int[]> allRuns() {
        List<int[]> all = new ArrayList<>();
        for (int i = 0; i < serials.size(); i++) {
            int[] serial = serials.get(i);
            int[] last = all.isEmpty() ? null : all.get(all.size() - 1);
            if (last != null && last[2] == serial[0] && last[3] == serial[1]) {
                last[1]++;
            } else {
                all.add(new int[] {i + 1, 1, serial[0], serial[1]});
            }
        }
        return all;
    }
}
