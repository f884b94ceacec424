/** Promise 7: reading a value, 0 for what is absent or not VALID. */
public final class Promise07GetTest {
    public static void main(String[] args) {
        HybridTables t = Checks.busy();
        Checks.due("get(KEY_INT, -7)", t.get(Checks.INT, -7), 70);
        Checks.due("get(KEY_INT, 1)", t.get(Checks.INT, 1), 10);
        Checks.due("get(KEY_INT, 2)", t.get(Checks.INT, 2), -20);
        Checks.due("get(KEY_INT, 9)", t.get(Checks.INT, 9), 90);
        Checks.due("get(KEY_SYM, 1)", t.get(Checks.SYM, 1), 5);
        for (int key : new int[] {Checks.MIN, -8, -6, 0, 3, 8, 10, Checks.MAX}) {
            Checks.due("get(KEY_INT, " + key + ")", t.get(Checks.INT, key), 0);
        }
        for (int key : new int[] {Checks.MIN, -7, -1, 0, 2, 3, 9, 15, 16, Checks.MAX}) {
            Checks.due("get(KEY_SYM, " + key + ")", t.get(Checks.SYM, key), 0);
        }
        for (int kind : new int[] {Checks.MIN, -2, -1, 2, 3, 256, Checks.MAX}) {
            for (int key : new int[] {-7, 0, 1, 2, 9}) {
                Checks.due("get(" + kind + ", " + key + ")", t.get(kind, key), 0);
            }
        }
        Checks.due("get changes nothing", Checks.state(t), Checks.BUSY);
        afterRemovals(t);
        Checks.end();
    }

    private static void afterRemovals(HybridTables t) {
        t.set(Checks.SYM, 1, 0);
        Checks.due("get of a deleted symbol", t.get(Checks.SYM, 1), 0);
        t.set(Checks.INT, 9, 0);
        Checks.due("get of a deleted int", t.get(Checks.INT, 9), 0);
        t.set(Checks.INT, 2, Checks.MIN);
        Checks.due("get of MIN", t.get(Checks.INT, 2), Checks.MIN);
        t.clear();
        Checks.due("get after clear", t.get(Checks.INT, 1), 0);
    }
}
