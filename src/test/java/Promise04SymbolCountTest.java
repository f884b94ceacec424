/** Promise 4: the count grows with each new name alone, and never falls. */
public final class Promise04SymbolCountTest {
    public static void main(String[] args) {
        growsToTheEnd();
        nothingElseMovesIt();
        Checks.end();
    }

    private static void growsToTheEnd() {
        HybridTables t = new HybridTables(4);
        for (int n = 0; n <= 16; n++) {
            Checks.internMany(t, n);
            Checks.due("symbolCount()", t.symbolCount(), n);
            Checks.feed(t, "s");
            Checks.due("symbolCount() while pending", t.symbolCount(), n);
            if (n > 0) {
                Checks.due("an old name", t.symbolEnd(), 0);
                Checks.due("symbolCount() after an old name", t.symbolCount(), n);
            } else {
                t = new HybridTables(4);
            }
        }
        Checks.due("one name too many", Checks.intern(t, "over"), -1);
        Checks.due("symbolCount() when full", t.symbolCount(), 16);
    }

    private static void nothingElseMovesIt() {
        HybridTables t = Checks.busy();
        Checks.due("symbolCount()", t.symbolCount(), 3);
        Checks.due("symbolCount() changes nothing", Checks.state(t), Checks.BUSY);
        t.set(Checks.SYM, 0, 4);
        t.set(Checks.SYM, 1, 0);
        t.set(Checks.SYM, 3, 4);
        t.next(Checks.SYM, 1);
        t.fill(1, 9, 2);
        t.append(3);
        t.purgeBelow(Checks.MAX);
        t.clear();
        Checks.due("symbolCount() after all else", t.symbolCount(), 3);
        Checks.due("symbols", Checks.symbols(t), "symbols x abcdefgh yy");
    }
}
