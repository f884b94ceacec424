/** The boundary cases of promise 9, a test for each sentence that names one. */
public final class Edges09LengthTest {
    private static final int MIN = Probe.MIN;
    private static final int MAX = Probe.MAX;
    private static final int INT = Probe.INT;
    private static final int SYM = Probe.SYM;

    public static void main(String[] args) {
        leastBorder();
        changesNothing();
        allUpToTheBorder();
        zeroOrPresent();
        absentJustPastIt();
        neverExceedsCap();
        zeroAndBelow();
        beyondAGap();
        symbols();
        Checks.end();
    }

    private static void leastBorder() {
        Checks.sentence("length() answers the border: the least n >= 0 such that no entry has key (KEY_INT, n+1).");
        Probe p = Probe.fresh(8);
        p.length(0);
        p.fill(2, 3, 5, 3);
        p.length(0);
        p.set(INT, 1, 5, true);
        p.length(4);
        p.set(INT, 6, 5, true);
        p.length(4);
        p.set(INT, 5, 5, true);
        p.length(6);
        p.set(INT, 3, 0, true);
        p.length(2);
        p.set(INT, 2, 0, true);
        p.length(1);
        p.set(INT, 1, 0, true);
        p.length(0);
    }

    private static void changesNothing() {
        Checks.sentence("Nothing changes. (length)");
        int[] lengths = {0, 2, 2};
        Probe[] each = Probe.each();
        for (int i = 0; i < each.length; i++) {
            each[i].length(lengths[i]);
            each[i].length(lengths[i]);
            each[i].lastLook();
        }
    }

    private static void allUpToTheBorder() {
        Checks.sentence("the keys (KEY_INT, 1) through (KEY_INT, n) are all present");
        for (int gone = 1; gone <= 32; gone++) {
            Probe p = Probe.fresh(32);
            p.fill(1, 32, 5, 32);
            p.set(INT, gone, 0, true);
            p.length(gone - 1);
            for (int key = 1; key < gone; key++) {
                p.get(INT, key, 5);
            }
        }
    }

    private static void zeroOrPresent() {
        Checks.sentence("n == 0 or (KEY_INT, n) is present");
        Probe p = Probe.fresh(4);
        p.length(0);
        p.set(INT, 2, 5, true);
        p.length(0);
        p.set(INT, 0, 5, true);
        p.length(0);
        p.set(INT, 1, 5, true);
        p.length(2);
        p.get(INT, 2, 5);
        p.clear();
        p.length(0);
    }

    private static void absentJustPastIt() {
        Checks.sentence("get(KEY_INT, n+1) == 0");
        for (int bits = 0; bits < 1 << 6; bits++) {
            Probe p = Probe.fresh(6);
            for (int i = 0; i < 6; i++) {
                p.set(INT, i + 1, bits >> i & 1, true);
            }
            p.get(INT, p.table.length() + 1, 0);
            p.length(Integer.numberOfTrailingZeros(~bits));
        }
    }

    private static void neverExceedsCap() {
        Checks.sentence("0 <= n <= count() <= cap, so length() never exceeds cap.");
        for (int cap = 4; cap <= 32; cap++) {
            Probe p = Probe.fresh(cap);
            for (int n = 0; n < cap; n++) {
                p.length(n);
                p.count(n);
                p.set(INT, n + 1, -1, true);
            }
            p.length(cap);
            p.count(cap);
            p.set(INT, cap + 1, 5, false);
            p.length(cap);
        }
    }

    private static void zeroAndBelow() {
        Checks.sentence("Entries with KEY_INT keys of 0 or below have no effect on the answer.");
        Probe p = Probe.fresh(8);
        for (int key : new int[] {0, -1, -2, MIN, MIN + 1}) {
            p.set(INT, key, 5, true);
            p.length(0);
        }
        p.fill(1, 2, 5, 2);
        p.length(2);
        p.fill(-2, 3, 0, 3);
        p.length(2);
    }

    private static void beyondAGap() {
        Checks.sentence("Integer keys beyond a gap have no effect on the answer.");
        Probe p = Probe.fresh(8);
        p.set(INT, MAX, 5, true);
        p.set(INT, 2, 5, true);
        p.set(INT, 3, 5, true);
        p.length(0);
        p.set(INT, 2, 0, true);
        p.set(INT, 1, 5, true);
        p.length(1);
        p.set(INT, 4, 5, true);
        p.length(1);
        p.set(INT, 3, 0, true);
        p.set(INT, MAX, 0, true);
        p.length(1);
    }

    private static void symbols() {
        Checks.sentence("KEY_SYM keys have no effect on the answer.");
        Probe p = Probe.fresh(32);
        Checks.internMany(p.table, 16);
        for (int id = 0; id < 16; id++) {
            p.set(SYM, id, 5, true);
            p.length(0);
        }
        p.set(INT, 1, 5, true);
        p.length(1);
        p.set(SYM, 1, 0, true);
        p.set(SYM, 2, 0, true);
        p.length(1);
    }
}
