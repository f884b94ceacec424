/** Promise 14: clear empties the table and nothing else. */
public final class Promise14ClearTest {
    public static void main(String[] args) {
        HybridTables t = Checks.busy();
        t.clear();
        Checks.due("after clear", Checks.state(t), Checks.BUSY_BESIDE_TABLE + "; table of 0 border 0:");
        t.clear();
        Checks.due("after clear twice", Checks.state(t), Checks.BUSY_BESIDE_TABLE + "; table of 0 border 0:");
        Checks.due("set(KEY_INT, 2, 3)", t.set(Checks.INT, 2, 3), true);
        Checks.due("set(KEY_SYM, 2, 4)", t.set(Checks.SYM, 2, 4), true);
        Checks.due("after setting", Checks.state(t), Checks.BUSY_BESIDE_TABLE + "; table of 2 border 0: 2=3 s2=4");
        t.clear();
        Checks.due("next(KEY_INT, 0)", t.next(Checks.INT, 0), Checks.NONE);
        Checks.due("symbolEnd()", t.symbolEnd(), 3);
        Checks.due("cap", Checks.capOf(t), 8);
        HybridTables full = new HybridTables(32);
        full.fill(1, 64, 1);
        full.clear();
        Checks.due("count() of a cleared full table", full.count(), 0);
        Checks.due("fill of a cleared full table", full.fill(-5, 64, 1), 32);
        Checks.end();
    }
}
