/** Promise 8: the number of entries, of both kinds. */
public final class Promise08CountTest {
    public static void main(String[] args) {
        HybridTables t = new HybridTables(32);
        Checks.internMany(t, 16);
        for (int i = 0; i < 16; i++) {
            t.set(Checks.SYM, i, 1);
            Checks.due("count() of symbols", t.count(), 2 * i + 1);
            t.set(Checks.INT, -100 * i, 1);
            Checks.due("count() of both", t.count(), 2 * i + 2);
        }
        t.set(Checks.INT, 1, 1);
        Checks.due("count() after a refusal", t.count(), 32);
        t.set(Checks.INT, 0, 2);
        Checks.due("count() after overwriting", t.count(), 32);
        t.set(Checks.INT, 1, 0);
        Checks.due("count() after deleting nothing", t.count(), 32);
        for (int i = 0; i < 16; i++) {
            t.set(Checks.INT, -100 * i, 0);
            Checks.due("count() going down", t.count(), 31 - i);
        }
        t.clear();
        Checks.due("count() after clear", t.count(), 0);
        HybridTables busy = Checks.busy();
        Checks.due("count()", busy.count(), 5);
        Checks.due("count() changes nothing", Checks.state(busy), Checks.BUSY);
        Checks.end();
    }
}
