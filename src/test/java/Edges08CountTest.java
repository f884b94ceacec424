/** The boundary cases of promise 8, a test for each sentence that names one. */
public final class Edges08CountTest {
    private static final int INT = Probe.INT;
    private static final int SYM = Probe.SYM;

    public static void main(String[] args) {
        fromNoneToCap();
        changesNothing();
        Checks.end();
    }

    private static void fromNoneToCap() {
        Checks.sentence("count() answers the number of entries in the table, in 0..cap.");
        for (int cap : new int[] {4, 5, 17, 31, 32}) {
            Probe p = Probe.fresh(cap);
            Checks.internMany(p.table, 2);
            p.count(0);
            p.set(SYM, 0, -1, true);
            p.count(1);
            p.set(SYM, 1, -1, true);
            for (int n = 2; n < cap; n++) {
                p.count(n);
                p.set(INT, -1000 * n, 1, true);
            }
            p.count(cap);
            p.set(INT, 1, 1, false);
            p.count(cap);
            p.set(SYM, 1, 0, true);
            p.count(cap - 1);
            p.purgeBelow(Probe.MAX, cap - 1);
            p.count(0);
            p.set(INT, 1, 0, true);
            p.count(0);
        }
    }

    private static void changesNothing() {
        Checks.sentence("Nothing changes. (count)");
        int[] counts = {0, 5, 8};
        Probe[] each = Probe.each();
        for (int i = 0; i < each.length; i++) {
            each[i].count(counts[i]);
            each[i].count(counts[i]);
            each[i].lastLook();
        }
    }
}
