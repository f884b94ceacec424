/** The boundary cases of promise 14, a test for each sentence that names one. */
public final class Edges14ClearTest {
    private static final int INT = Probe.INT;
    private static final int SYM = Probe.SYM;
    private static final int NONE = Probe.NONE;

    public static void main(String[] args) {
        removesEveryEntry();
        elseUnchanged();
        recordStays();
        Checks.end();
    }

    private static void removesEveryEntry() {
        Checks.sentence("clear() removes every entry of the table, so afterwards count() == 0 and length() == 0.");
        for (Probe p : Probe.each()) {
            p.clear();
            p.count(0);
            p.length(0);
            p.get(INT, 1, 0);
            p.get(SYM, 1, 0);
            p.clear();
            p.count(0);
            p.set(INT, 2, 3, true);
            p.count(1);
            p.length(0);
            p.dueTable = "1 border 0: 2=3";
            p.lastLook();
        }
        for (int cap = 4; cap <= 32; cap++) {
            Probe packed = Probe.fresh(cap);
            packed.fill(1, 64, 5, cap);
            packed.clear();
            packed.lastLook();
        }
    }

    private static void elseUnchanged() {
        Checks.sentence("The symbols, PENDING, the record and cap are unchanged. (clear)");
        for (Probe p : Probe.each()) {
            p.clear();
            p.dueTable = "0 border 0:";
            p.lastLook();
        }
    }

    private static void recordStays() {
        Checks.sentence("The record may therefore still name a key that is no longer present.");
        Probe p = Probe.busy();
        p.step(INT, 9, SYM, 1, 5);
        p.clear();
        p.record(1, 5);
        p.get(SYM, 1, 0);
        p.next(SYM, p.table.lastKey(), NONE);
        p.record(0, 0);
    }
}
