/** The boundary cases of promise 4, a test for each sentence that names one. */
public final class Edges04SymbolCountTest {
    private static final int INT = Probe.INT;
    private static final int SYM = Probe.SYM;

    public static void main(String[] args) {
        fromNoneToMaxSymbols();
        changesNothing();
        neverDecreases();
        growsOnlyWithANewName();
        Checks.end();
    }

    private static void fromNoneToMaxSymbols() {
        Checks.sentence("symbolCount() answers the number of interned symbols, in 0..MAX_SYMBOLS.");
        Probe p = Probe.fresh(4);
        p.symbolCount(0);
        for (int n = 1; n <= 16; n++) {
            Checks.internMany(p.table, n);
            p.symbolCount(n);
        }
        p.intern("a", -1);
        p.symbolCount(16);
    }

    private static void changesNothing() {
        Checks.sentence("It changes nothing.");
        for (Probe p : Probe.each()) {
            int symbols = p.table.symbolCount();
            p.symbolCount(symbols);
            p.symbolCount(symbols);
            p.lastLook();
        }
    }

    private static void neverDecreases() {
        Checks.sentence("The count never decreases.");
        Probe p = Probe.full();
        p.symbolEnd(-1);
        p.symbolCount(16);
        p.symbolEnd(-1);
        p.symbolCount(16);
        p.intern("tttttttt", 15);
        p.symbolCount(16);
        p.set(SYM, 15, 0, true);
        p.fill(-7, 64, 0, 64);
        p.purgeBelow(Probe.MAX, 3);
        p.symbolCount(16);
        p.clear();
        p.symbolCount(16);
        Probe one = Probe.fresh(4);
        one.intern("a", 0);
        one.set(SYM, 0, 5, true);
        one.set(SYM, 0, 0, true);
        one.clear();
        one.symbolCount(1);
    }

    private static void growsOnlyWithANewName() {
        Checks.sentence("It grows only through step 4 of symbolEnd.");
        Probe p = Probe.fresh(4);
        p.symbolEnd(-1);
        p.symbolCount(0);
        p.symbolChar('a', true);
        p.symbolCount(0);
        p.symbolEnd(0);
        p.symbolCount(1);
        p.intern("a", 0);
        p.symbolCount(1);
        p.set(SYM, 1, 5, false);
        p.get(SYM, 1, 0);
        p.next(SYM, 1, Probe.ERROR);
        p.set(SYM, 0, 5, true);
        p.set(INT, 1, 5, true);
        p.next(Probe.NONE, 0, INT);
        p.fill(1, 2, 5, 2);
        p.append(5, 3);
        p.symbolCount(1);
    }
}
