/** Promise 1: cap is clamped, everything else starts empty. */
public final class Promise01ConstructionTest {
    public static void main(String[] args) {
        for (int wanted = -70; wanted <= 100; wanted++) {
            check(wanted, Math.max(4, Math.min(32, wanted)));
        }
        check(Checks.MIN, 4);
        check(Checks.MIN + 1, 4);
        check(Checks.MAX, 32);
        check(Checks.MAX - 1, 32);
        capNeverChanges();
        objectsShareNothing();
        Checks.end();
    }

    private static void check(int wanted, int cap) {
        HybridTables t = new HybridTables(wanted);
        String made = "new HybridTables(" + wanted + ") ";
        Checks.due(made + "count()", t.count(), 0);
        Checks.due(made + "length()", t.length(), 0);
        Checks.due(made + "symbolCount()", t.symbolCount(), 0);
        Checks.due(made + "symbolLength(-1)", t.symbolLength(-1), 0);
        Checks.due(made + "lastKey()", t.lastKey(), 0);
        Checks.due(made + "lastValue()", t.lastValue(), 0);
        Checks.due(made + "next(KEY_NONE, 0)", t.next(Checks.NONE, 0), Checks.NONE);
        Checks.due(made + "fill(1, 64, 1)", t.fill(1, 64, 1), cap);
        Checks.due(made + "count() when full", t.count(), cap);
        Checks.due(made + "set when full", t.set(Checks.INT, 1000, 1), false);
    }

    private static void capNeverChanges() {
        HybridTables t = Checks.busy();
        for (int round = 0; round < 5; round++) {
            Checks.due("cap in round " + round, Checks.capOf(t), 8);
            t.purgeBelow(round - 2);
            t.symbolEnd();
            t.set(Checks.INT, 3, 0);
            t.append(4);
        }
    }

    private static void objectsShareNothing() {
        HybridTables full = Checks.busy();
        HybridTables fresh = new HybridTables(5);
        Checks.due("a fresh table", Checks.state(fresh), "symbols; pending ; record 0 0; table of 0 border 0:");
        Checks.feed(fresh, "k");
        fresh.symbolEnd();
        fresh.set(Checks.INT, 1, 3);
        fresh.next(Checks.NONE, 0);
        Checks.due("the other table", Checks.state(full), Checks.BUSY);
    }
}
