/** The boundary cases of promise 1, a test for each sentence that names one. */
public final class Edges01ConstructionTest {
    private static final int INT = Probe.INT;

    public static void main(String[] args) {
        belowMinCap();
        aboveMaxCap();
        keptAsGiven();
        startsWithAnEmptyTable();
        startsWithoutSymbols();
        startsWithoutPending();
        startsWithAnEmptyRecord();
        capNeverChanges();
        Checks.end();
    }

    private static void belowMinCap() {
        Checks.sentence("any value below 4 (including 0, negatives and Integer.MIN_VALUE) becomes 4");
        for (int maxKeys : new int[] {3, 2, 1, 0, -1, -4, -5, -32, -33, Probe.MIN + 4, Probe.MIN + 1, Probe.MIN}) {
            takes(maxKeys, 4);
        }
    }

    private static void aboveMaxCap() {
        Checks.sentence("any value above 32 (up to Integer.MAX_VALUE) becomes 32");
        for (int maxKeys : new int[] {33, 34, 63, 64, 65, 256, 260, 65536, 65540, Probe.MAX - 1, Probe.MAX}) {
            takes(maxKeys, 32);
        }
    }

    private static void keptAsGiven() {
        Checks.sentence("values 4..32 are kept as given");
        for (int maxKeys = 4; maxKeys <= 32; maxKeys++) {
            takes(maxKeys, maxKeys);
        }
    }

    private static void takes(int maxKeys, int cap) {
        Probe p = Probe.made(maxKeys, cap);
        for (int key = 1; key <= cap; key++) {
            p.set(INT, key, 1, true);
        }
        p.count(cap);
        p.set(INT, cap + 1, 1, false);
        p.count(cap);
    }

    private static void startsWithAnEmptyTable() {
        Checks.sentence("the table is empty, so count() == 0 and length() == 0");
        for (int maxKeys : new int[] {Probe.MIN, 0, 4, 17, 32, Probe.MAX}) {
            Probe p = Probe.made(maxKeys, Math.max(4, Math.min(32, maxKeys)));
            p.count(0);
            p.length(0);
            p.get(INT, 0, 0);
            p.get(INT, 1, 0);
            p.next(Probe.NONE, 0, Probe.NONE);
            p.lastLook();
        }
    }

    private static void startsWithoutSymbols() {
        Checks.sentence("there are no symbols, so symbolCount() == 0");
        Probe p = Probe.fresh(4);
        p.symbolCount(0);
        p.symbolLength(0, -1);
        p.symbolCharAt(0, 0, 0);
        p.set(Probe.SYM, 0, 1, false);
        p.intern("a", 0);
    }

    private static void startsWithoutPending() {
        Checks.sentence("PENDING is empty, so symbolLength(-1) == 0");
        Probe p = Probe.fresh(4);
        p.symbolLength(-1, 0);
        p.symbolCharAt(-1, 0, 0);
        p.symbolEnd(-1);
        p.feed("abcdefgh");
        p.symbolCharAt(-1, 0, 'a');
    }

    private static void startsWithAnEmptyRecord() {
        Checks.sentence("the record is (0, 0), so lastKey() == 0 and lastValue() == 0");
        Probe p = Probe.fresh(4);
        p.record(0, 0);
        p.set(INT, 5, 6, true);
        p.next(Probe.ERROR, 0, Probe.ERROR);
        p.record(0, 0);
    }

    private static void capNeverChanges() {
        Checks.sentence("Cap never changes afterwards.");
        for (int cap : new int[] {4, 5, 31, 32}) {
            Probe p = Probe.fresh(cap);
            for (int round = 0; round < 20; round++) {
                p.intern("" + (char) ('a' + round), round < 16 ? round : -1);
                p.fill(1, 64, 3, cap);
                p.append(1, -1);
                p.set(INT, 2, 0, true);
                p.append(1, 2);
                p.set(INT, -1, 1, false);
                p.next(Probe.NONE, 0, INT);
                removeAll(p, round, cap);
                p.count(0);
            }
        }
    }

    private static void removeAll(Probe p, int round, int cap) {
        if (round % 3 == 0) {
            p.clear();
        } else if (round % 3 == 1) {
            p.purgeBelow(4, cap);
        } else {
            p.fill(1, 64, 0, 64);
        }
    }
}
