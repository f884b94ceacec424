/** Promise 11: fill is a run of sets that stops at the first refused one. */
public final class Promise11FillTest {
    public static void main(String[] args) {
        badCounts();
        noCount();
        stopsWhenFull();
        passesPresentKeys();
        deleting();
        wraps();
        Checks.end();
    }

    private static void badCounts() {
        HybridTables t = Checks.busy();
        for (int n : new int[] {-1, -2, -64, Checks.MIN, 65, 66, 1000, Checks.MAX}) {
            Checks.due("fill(1, " + n + ", 5)", t.fill(1, n, 5), -1);
            Checks.due("fill(1, " + n + ", 0)", t.fill(1, n, 0), -1);
        }
        Checks.due("after refusals", Checks.state(t), Checks.BUSY);
    }

    private static void noCount() {
        HybridTables t = Checks.busy();
        Checks.due("fill(1, 0, 5)", t.fill(1, 0, 5), 0);
        Checks.due("fill(1, 0, 0)", t.fill(1, 0, 0), 0);
        Checks.due("after nothing", Checks.state(t), Checks.BUSY);
    }

    private static void stopsWhenFull() {
        HybridTables t = Checks.busy();
        Checks.due("fill(20, 1, 5)", t.fill(20, 1, 5), 1);
        tableIs(t, "6 border 2: -7=70 1=10 2=-20 9=90 20=5 s1=5");
        Checks.due("fill(3, 64, -6)", t.fill(3, 64, -6), 2);
        tableIs(t, "8 border 4: -7=70 1=10 2=-20 3=-6 4=-6 9=90 20=5 s1=5");
        Checks.due("fill(5, 1, 1)", t.fill(5, 1, 1), 0);
        Checks.due("fill(-3, 64, 1)", t.fill(-3, 64, 1), 0);
        tableIs(t, "8 border 4: -7=70 1=10 2=-20 3=-6 4=-6 9=90 20=5 s1=5");
        HybridTables wide = new HybridTables(32);
        Checks.due("fill(1, 64, 1) of 32", wide.fill(1, 64, 1), 32);
        Checks.due("fill(1, 32, 2) of 32", wide.fill(1, 32, 2), 32);
        Checks.due("fill(1, 33, 3) of 32", wide.fill(1, 33, 3), 32);
        Checks.due("get(KEY_INT, 32)", wide.get(Checks.INT, 32), 3);
    }

    /** The stop is at the first absent key, not at the first key after the table is full. */
    private static void passesPresentKeys() {
        HybridTables t = Checks.busy();
        t.set(Checks.INT, 4, 40);
        Checks.due("fill(0, 20, 7)", t.fill(0, 20, 7), 5);
        tableIs(t, "8 border 4: -7=70 0=7 1=7 2=7 3=7 4=7 9=90 s1=5");
        Checks.due("fill(0, 5, 8)", t.fill(0, 5, 8), 5);
        tableIs(t, "8 border 4: -7=70 0=8 1=8 2=8 3=8 4=8 9=90 s1=5");
        Checks.due("fill(3, 9, 9)", t.fill(3, 9, 9), 2);
        tableIs(t, "8 border 4: -7=70 0=8 1=8 2=8 3=9 4=9 9=90 s1=5");
    }

    private static void deleting() {
        HybridTables t = Checks.busy();
        Checks.due("fill(-7, 9, 0)", t.fill(-7, 9, 0), 9);
        tableIs(t, "3 border 0: 2=-20 9=90 s1=5");
        Checks.due("fill(3, 64, 0)", t.fill(3, 64, 0), 64);
        tableIs(t, "2 border 0: 2=-20 s1=5");
        HybridTables full = new HybridTables(4);
        full.fill(10, 4, 1);
        Checks.due("fill(0, 64, 0) of a full table", full.fill(0, 64, 0), 64);
        Checks.due("count()", full.count(), 0);
    }

    private static void wraps() {
        HybridTables t = Checks.busy();
        Checks.due("fill(MAX - 1, 3, 6)", t.fill(Checks.MAX - 1, 3, 6), 3);
        tableIs(t, "8 border 2: " + Checks.MIN + "=6 -7=70 1=10 2=-20 9=90 "
                + (Checks.MAX - 1) + "=6 " + Checks.MAX + "=6 s1=5");
        Checks.due("fill(MAX, 2, 0)", t.fill(Checks.MAX, 2, 0), 2);
        tableIs(t, "6 border 2: -7=70 1=10 2=-20 9=90 " + (Checks.MAX - 1) + "=6 s1=5");
        Checks.due("fill(MAX, 64, 3)", t.fill(Checks.MAX, 64, 3), 2);
        Checks.due("get(KEY_INT, MIN)", t.get(Checks.INT, Checks.MIN), 3);
        Checks.due("get(KEY_INT, MIN + 1)", t.get(Checks.INT, Checks.MIN + 1), 0);
        Checks.due("cap", Checks.capOf(t), 8);
    }

    private static void tableIs(HybridTables t, String want) {
        Checks.due("state", Checks.state(t), Checks.BUSY_BESIDE_TABLE + "; table of " + want);
    }
}
