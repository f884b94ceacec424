/** Promise 6: storing and deleting, its five steps in their order. */
public final class Promise06SetTest {
    private static final int[] BAD_KINDS = {-1, 2, 3, -2, 256, Checks.MIN, Checks.MAX};

    public static void main(String[] args) {
        invalidKeys();
        deleting();
        overwriting();
        fullTable();
        extremes();
        kindsAreApart();
        deletingFromEveryPlace();
        Checks.end();
    }

    private static void invalidKeys() {
        HybridTables t = Checks.busy();
        for (int value : new int[] {0, 1, -1}) {
            for (int kind : BAD_KINDS) {
                for (int key : new int[] {-7, 0, 1, 2, 9}) {
                    Checks.due("set(" + kind + ", " + key + ", " + value + ")", t.set(kind, key, value), false);
                }
            }
            for (int key : new int[] {-1, 3, 4, 15, 16, Checks.MIN, Checks.MAX}) {
                Checks.due("set(KEY_SYM, " + key + ", " + value + ")", t.set(Checks.SYM, key, value), false);
            }
        }
        Checks.due("after refusals", Checks.state(t), Checks.BUSY);
        HybridTables none = new HybridTables(4);
        Checks.due("set(KEY_SYM, 0, 1) without symbols", none.set(Checks.SYM, 0, 1), false);
        Checks.due("set(KEY_SYM, 0, 0) without symbols", none.set(Checks.SYM, 0, 0), false);
        Checks.due("set(KEY_SYM, 0, 1) with one symbol", Checks.intern(none, "a") == 0 && none.set(Checks.SYM, 0, 1), true);
    }

    private static void deleting() {
        HybridTables t = Checks.busy();
        Checks.due("delete an absent int", t.set(Checks.INT, 3, 0), true);
        Checks.due("delete an absent symbol", t.set(Checks.SYM, 2, 0), true);
        Checks.due("after both", Checks.state(t), Checks.BUSY);
        Checks.due("delete 1", t.set(Checks.INT, 1, 0), true);
        tableIs(t, "4 border 0: -7=70 2=-20 9=90 s1=5");
        Checks.due("delete 1 again", t.set(Checks.INT, 1, 0), true);
        tableIs(t, "4 border 0: -7=70 2=-20 9=90 s1=5");
        Checks.due("delete the symbol", t.set(Checks.SYM, 1, 0), true);
        tableIs(t, "3 border 0: -7=70 2=-20 9=90");
        Checks.due("delete -7", t.set(Checks.INT, -7, 0), true);
        Checks.due("delete 9", t.set(Checks.INT, 9, 0), true);
        Checks.due("delete 2", t.set(Checks.INT, 2, 0), true);
        tableIs(t, "0 border 0:");
        Checks.due("delete in the empty table", t.set(Checks.INT, 2, 0), true);
        tableIs(t, "0 border 0:");
    }

    private static void overwriting() {
        HybridTables t = Checks.busy();
        Checks.due("overwrite 2", t.set(Checks.INT, 2, 21), true);
        Checks.due("overwrite -7", t.set(Checks.INT, -7, -71), true);
        Checks.due("overwrite the symbol", t.set(Checks.SYM, 1, 6), true);
        tableIs(t, "5 border 2: -7=-71 1=10 2=21 9=90 s1=6");
    }

    private static void fullTable() {
        HybridTables t = Checks.busy();
        Checks.due("set(KEY_SYM, 0, 1)", t.set(Checks.SYM, 0, 1), true);
        Checks.due("set(KEY_INT, 0, 1)", t.set(Checks.INT, 0, 1), true);
        Checks.due("set(KEY_INT, 10, 1)", t.set(Checks.INT, 10, 1), true);
        String full = "8 border 2: -7=70 0=1 1=10 2=-20 9=90 10=1 s0=1 s1=5";
        tableIs(t, full);
        Checks.due("a new int when full", t.set(Checks.INT, 3, 1), false);
        Checks.due("a new symbol when full", t.set(Checks.SYM, 2, 1), false);
        Checks.due("a bad kind when full", t.set(2, 1, 1), false);
        Checks.due("delete an absent key when full", t.set(Checks.INT, 3, 0), true);
        Checks.due("delete an absent symbol when full", t.set(Checks.SYM, 2, 0), true);
        tableIs(t, full);
        Checks.due("overwrite when full", t.set(Checks.INT, 9, 91), true);
        Checks.due("overwrite a symbol when full", t.set(Checks.SYM, 0, 2), true);
        tableIs(t, "8 border 2: -7=70 0=1 1=10 2=-20 9=91 10=1 s0=2 s1=5");
        Checks.due("delete when full", t.set(Checks.INT, 0, 0), true);
        Checks.due("a new symbol in its stead", t.set(Checks.SYM, 2, 3), true);
        Checks.due("full again", t.set(Checks.INT, 0, 1), false);
        tableIs(t, "8 border 2: -7=70 1=10 2=-20 9=91 10=1 s0=2 s1=5 s2=3");
    }

    private static void extremes() {
        HybridTables t = Checks.busy();
        Checks.due("set(KEY_INT, MIN, MIN)", t.set(Checks.INT, Checks.MIN, Checks.MIN), true);
        Checks.due("set(KEY_INT, MAX, MAX)", t.set(Checks.INT, Checks.MAX, Checks.MAX), true);
        Checks.due("set(KEY_INT, 0, -1)", t.set(Checks.INT, 0, -1), true);
        tableIs(t, "8 border 2: " + Checks.MIN + "=" + Checks.MIN + " -7=70 0=-1 1=10 2=-20 9=90 "
                + Checks.MAX + "=" + Checks.MAX + " s1=5");
    }

    private static void kindsAreApart() {
        HybridTables t = Checks.busy();
        t.clear();
        Checks.due("set(KEY_INT, 1, 4)", t.set(Checks.INT, 1, 4), true);
        Checks.due("set(KEY_SYM, 1, 5)", t.set(Checks.SYM, 1, 5), true);
        tableIs(t, "2 border 1: 1=4 s1=5");
        Checks.due("set(KEY_INT, 1, 0)", t.set(Checks.INT, 1, 0), true);
        tableIs(t, "1 border 0: s1=5");
        Checks.due("set(KEY_INT, 1, 0)", t.set(Checks.INT, 1, 0), true);
        tableIs(t, "1 border 0: s1=5");
    }

    /** All 32 places, put in from both ends, each deleted once while the others stay. */
    private static void deletingFromEveryPlace() {
        for (int gone = 0; gone < 32; gone++) {
            HybridTables t = new HybridTables(32);
            for (int i = 0; i < 32; i++) {
                int key = i % 2 == 0 ? i / 2 : 31 - i / 2;
                Checks.due("set(KEY_INT, " + key + ", ..)", t.set(Checks.INT, key, 100 + key), true);
            }
            Checks.due("delete " + gone, t.set(Checks.INT, gone, 0), true);
            Checks.due("count()", t.count(), 31);
            for (int key = 0; key < 32; key++) {
                Checks.due("get(KEY_INT, " + key + ") without " + gone, t.get(Checks.INT, key), key == gone ? 0 : 100 + key);
            }
            Checks.due("put in another", t.set(Checks.INT, 77, 7), true);
            Checks.due("full again", t.set(Checks.INT, gone, 7), false);
        }
    }

    /** The table, and with it that set touches nothing beside it. */
    private static void tableIs(HybridTables t, String want) {
        Checks.due("state", Checks.state(t), Checks.BUSY_BESIDE_TABLE + "; table of " + want);
    }
}
