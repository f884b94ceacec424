/** Promise 10: iteration in canonical order from any key, and the record. */
public final class Promise10NextTest {
    public static void main(String[] args) {
        refusals();
        emptyTable();
        fromEveryKey();
        extremes();
        recordIsKept();
        traversals();
        Checks.end();
    }

    private static void refusals() {
        HybridTables t = Checks.busy();
        for (int kind : new int[] {-1, 3, -2, 4, 256, Checks.MIN, Checks.MAX}) {
            for (int key : new int[] {-7, 0, 1, 2}) {
                Checks.due("next(" + kind + ", " + key + ")", t.next(kind, key), Checks.ERROR);
            }
        }
        for (int key : new int[] {-1, 3, 4, 15, 16, Checks.MIN, Checks.MAX}) {
            Checks.due("next(KEY_SYM, " + key + ")", t.next(Checks.SYM, key), Checks.ERROR);
        }
        Checks.due("after refusals", Checks.state(t), Checks.BUSY);
        HybridTables none = new HybridTables(4);
        Checks.due("next(KEY_SYM, 0) without symbols", none.next(Checks.SYM, 0), Checks.ERROR);
    }

    private static void emptyTable() {
        HybridTables t = Checks.busy();
        t.clear();
        Checks.due("the record before", Checks.record(t), "record -7 70");
        step(t, Checks.NONE, 5, Checks.NONE, 0, 0);
        step(t, Checks.INT, Checks.MIN, Checks.NONE, 0, 0);
        step(t, Checks.INT, Checks.MAX, Checks.NONE, 0, 0);
        step(t, Checks.SYM, 0, Checks.NONE, 0, 0);
        step(t, Checks.SYM, 2, Checks.NONE, 0, 0);
    }

    private static void fromEveryKey() {
        HybridTables t = Checks.busy();
        for (int key : new int[] {0, -1, 1, 100, Checks.MIN, Checks.MAX}) {
            step(t, Checks.NONE, key, Checks.INT, -7, 70);
        }
        step(t, Checks.INT, Checks.MIN, Checks.INT, -7, 70);
        step(t, Checks.INT, -8, Checks.INT, -7, 70);
        step(t, Checks.INT, -7, Checks.INT, 1, 10);
        step(t, Checks.INT, -6, Checks.INT, 1, 10);
        step(t, Checks.INT, 0, Checks.INT, 1, 10);
        step(t, Checks.INT, 1, Checks.INT, 2, -20);
        step(t, Checks.INT, 2, Checks.INT, 9, 90);
        step(t, Checks.INT, 8, Checks.INT, 9, 90);
        step(t, Checks.INT, 9, Checks.SYM, 1, 5);
        step(t, Checks.INT, 10, Checks.SYM, 1, 5);
        step(t, Checks.INT, Checks.MAX, Checks.SYM, 1, 5);
        step(t, Checks.SYM, 0, Checks.SYM, 1, 5);
        step(t, Checks.SYM, 1, Checks.NONE, 0, 0);
        step(t, Checks.SYM, 2, Checks.NONE, 0, 0);
        t.set(Checks.SYM, 2, 8);
        step(t, Checks.SYM, 0, Checks.SYM, 1, 5);
        step(t, Checks.SYM, 1, Checks.SYM, 2, 8);
        step(t, Checks.SYM, 2, Checks.NONE, 0, 0);
        t.next(Checks.NONE, 0);
        Checks.due("next changes nothing else", Checks.state(t),
                Checks.BUSY.replace("table of 5", "table of 6") + " s2=8");
    }

    private static void extremes() {
        HybridTables t = new HybridTables(4);
        Checks.intern(t, "a");
        t.set(Checks.INT, Checks.MAX, 3);
        t.set(Checks.INT, Checks.MIN, 4);
        t.set(Checks.SYM, 0, Checks.MIN);
        step(t, Checks.NONE, 0, Checks.INT, Checks.MIN, 4);
        step(t, Checks.INT, Checks.MIN, Checks.INT, Checks.MAX, 3);
        step(t, Checks.INT, Checks.MAX - 1, Checks.INT, Checks.MAX, 3);
        step(t, Checks.INT, Checks.MAX, Checks.SYM, 0, Checks.MIN);
        step(t, Checks.SYM, 0, Checks.NONE, 0, 0);
        t.set(Checks.SYM, 0, 0);
        step(t, Checks.INT, Checks.MAX, Checks.NONE, 0, 0);
    }

    private static void recordIsKept() {
        HybridTables t = Checks.busy();
        step(t, Checks.INT, 2, Checks.INT, 9, 90);
        t.set(Checks.INT, 9, 91);
        Checks.due("after overwriting", Checks.record(t), "record 9 90");
        t.set(Checks.INT, 9, 0);
        Checks.due("after deleting", Checks.record(t), "record 9 90");
        t.next(Checks.ERROR, 9);
        t.next(Checks.SYM, 3);
        t.fill(1, 3, 4);
        t.append(5);
        t.purgeBelow(5);
        t.symbolEnd();
        t.get(Checks.INT, 1);
        t.clear();
        Checks.due("after all else", Checks.record(t), "record 9 90");
        step(t, Checks.INT, 2, Checks.NONE, 0, 0);
    }

    private static void traversals() {
        HybridTables t = new HybridTables(32);
        Checks.internMany(t, 16);
        for (int i = 0; i < 12; i++) {
            t.set(Checks.SYM, (i * 5 + 3) % 16, i - 6 == 0 ? 77 : i - 6);
            t.set(Checks.INT, (i * 7 % 12 - 6) * 1000, 50 + i);
        }
        traverse(t, false);
        traverse(t, true);
        Checks.due("count() after removing each", t.count(), 0);
        traverse(t, true);
    }

    private static void traverse(HybridTables t, boolean removing) {
        int want = t.count();
        int yielded = 0;
        int beforeKind = Checks.ERROR;
        int beforeKey = 0;
        int kind = t.next(Checks.NONE, 0);
        while (kind != Checks.NONE && yielded <= 32) {
            yielded++;
            int key = t.lastKey();
            Checks.due("ascends", kind > beforeKind || kind == beforeKind && key > beforeKey, true);
            Checks.due("lastValue()", t.lastValue(), t.get(kind, key));
            Checks.due("lastValue() is nil", t.lastValue() == 0, false);
            if (removing) {
                Checks.due("remove", t.set(kind, t.lastKey(), 0), true);
            }
            beforeKind = kind;
            beforeKey = key;
            kind = t.next(kind, t.lastKey());
        }
        Checks.due("keys yielded", yielded, want);
        Checks.due("the record at the end", Checks.record(t), "record 0 0");
    }

    private static void step(HybridTables t, int kind, int key, int found, int number, int value) {
        String call = "next(" + kind + ", " + key + ")";
        Checks.due(call, t.next(kind, key), found);
        Checks.due("lastKey() after " + call, t.lastKey(), number);
        Checks.due("lastValue() after " + call, t.lastValue(), value);
    }
}
