/** The boundary cases of promise 7, a test for each sentence that names one. */
public final class Edges07GetTest {
    private static final int MIN = Probe.MIN;
    private static final int MAX = Probe.MAX;
    private static final int INT = Probe.INT;
    private static final int SYM = Probe.SYM;

    public static void main(String[] args) {
        badKind();
        symbolOutside();
        noSuchEntry();
        presentIsNonzero();
        changesNothing();
        Checks.end();
    }

    private static void badKind() {
        Checks.sentence("It answers 0 if: the key is not VALID (any kind other than KEY_INT/KEY_SYM)");
        for (Probe p : Probe.each()) {
            for (int kind : Probe.BAD_KINDS) {
                for (int key : new int[] {MIN, -7, -1, 0, 1, 2, 9, 15, MAX}) {
                    p.get(kind, key, 0);
                }
            }
            p.lastLook();
        }
    }

    private static void symbolOutside() {
        Checks.sentence("It answers 0 if: the key is not VALID (a KEY_SYM number outside 0..symbolCount()-1)");
        for (Probe p : Probe.each()) {
            int symbols = p.table.symbolCount();
            for (int key : new int[] {MIN, -7, -1, symbols, symbols + 1, 16, 17, 256, MAX}) {
                p.get(SYM, key, 0);
            }
            p.lastLook();
        }
        Probe ints = Probe.fresh(4);
        ints.intern("a", 0);
        ints.fill(-1, 4, 5, 4);
        for (int key = -1; key <= 2; key++) {
            ints.get(SYM, key, 0);
        }
    }

    private static void noSuchEntry() {
        Checks.sentence("It answers 0 if: no such entry is present.");
        Probe p = Probe.busy();
        for (int key : new int[] {MIN, -8, -6, -1, 0, 3, 8, 10, MAX}) {
            p.get(INT, key, 0);
        }
        p.get(SYM, 0, 0);
        p.get(SYM, 2, 0);
        p.set(INT, 9, 0, true);
        p.get(INT, 9, 0);
        p.set(SYM, 1, 0, true);
        p.get(SYM, 1, 0);
        p.get(INT, 1, 10);
        p.clear();
        p.get(INT, 1, 0);
        Probe empty = Probe.fresh(4);
        for (int key : new int[] {MIN, -1, 0, 1, MAX}) {
            empty.get(INT, key, 0);
        }
    }

    private static void presentIsNonzero() {
        Checks.sentence("A present entry always yields a nonzero answer.");
        Probe p = Probe.full();
        p.get(INT, -7, 71);
        p.get(INT, 1, 10);
        p.get(INT, 2, -20);
        p.get(INT, 9, 90);
        p.get(INT, MAX, 7);
        p.get(SYM, 0, 6);
        p.get(SYM, 1, 5);
        p.get(SYM, 15, -3);
        Probe odd = Probe.fresh(4);
        odd.set(INT, MIN, MIN, true);
        odd.set(INT, 0, -1, true);
        odd.get(INT, MIN, MIN);
        odd.get(INT, 0, -1);
    }

    private static void changesNothing() {
        Checks.sentence("Nothing changes. (get)");
        for (Probe p : Probe.each()) {
            for (int kind = -2; kind <= 4; kind++) {
                for (int key = -8; key <= 17; key++) {
                    p.table.get(kind, key);
                }
            }
            p.lastLook();
        }
    }
}
