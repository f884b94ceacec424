/** Promise 12: append puts its value just past the border, or nothing. */
public final class Promise12AppendTest {
    public static void main(String[] args) {
        nil();
        atTheBorder();
        toCap();
        Checks.end();
    }

    private static void nil() {
        HybridTables t = Checks.busy();
        Checks.due("append(0)", t.append(0), -1);
        Checks.due("after append(0)", Checks.state(t), Checks.BUSY);
        HybridTables fresh = new HybridTables(4);
        Checks.due("append(0) on a new table", fresh.append(0), -1);
        Checks.due("count()", fresh.count(), 0);
    }

    private static void atTheBorder() {
        HybridTables t = Checks.busy();
        t.set(Checks.INT, 4, 40);
        Checks.due("append(33)", t.append(33), 3);
        tableIs(t, "7 border 4: -7=70 1=10 2=-20 3=33 4=40 9=90 s1=5");
        Checks.due("append(MIN)", t.append(Checks.MIN), 5);
        tableIs(t, "8 border 5: -7=70 1=10 2=-20 3=33 4=40 5=" + Checks.MIN + " 9=90 s1=5");
        Checks.due("append(1) when full", t.append(1), -1);
        Checks.due("append(0) when full", t.append(0), -1);
        tableIs(t, "8 border 5: -7=70 1=10 2=-20 3=33 4=40 5=" + Checks.MIN + " 9=90 s1=5");
        t.set(Checks.INT, 1, 0);
        Checks.due("append(-1) into the first place", t.append(-1), 1);
        tableIs(t, "8 border 5: -7=70 1=-1 2=-20 3=33 4=40 5=" + Checks.MIN + " 9=90 s1=5");
        Checks.due("cap", Checks.capOf(t), 8);
    }

    private static void toCap() {
        for (int cap = 4; cap <= 32; cap++) {
            HybridTables t = new HybridTables(cap);
            for (int n = 1; n <= cap; n++) {
                Checks.due("append(" + -n + ")", t.append(-n), n);
                Checks.due("length()", t.length(), n);
                Checks.due("get(KEY_INT, " + n + ")", t.get(Checks.INT, n), -n);
            }
            Checks.due("append(1) past cap " + cap, t.append(1), -1);
            Checks.due("count()", t.count(), cap);
        }
    }

    private static void tableIs(HybridTables t, String want) {
        Checks.due("state", Checks.state(t), Checks.BUSY_BESIDE_TABLE + "; table of " + want);
    }
}
