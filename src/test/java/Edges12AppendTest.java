/** The boundary cases of promise 12, a test for each sentence that names one. */
public final class Edges12AppendTest {
    private static final int MIN = Probe.MIN;
    private static final int MAX = Probe.MAX;
    private static final int INT = Probe.INT;
    private static final int SYM = Probe.SYM;

    public static void main(String[] args) {
        nil();
        tableIsFull();
        addedPastTheBorder();
        addedUpToCap();
        lengthAfterwards();
        elseUnchanged();
        Checks.end();
    }

    private static void nil() {
        Checks.sentence("If value == 0, it answers -1 and nothing changes.");
        for (Probe p : Probe.each()) {
            p.append(0, -1);
            p.lastLook();
        }
    }

    private static void tableIsFull() {
        Checks.sentence("if set(KEY_INT, n+1, value) is refused because the table is full, it answers -1 and nothing"
                + " changes");
        for (int value : new int[] {1, -1, MIN, MAX}) {
            Probe p = Probe.full();
            p.append(value, -1);
            p.append(value, -1);
            p.lastLook();
        }
        for (int cap = 4; cap <= 32; cap++) {
            Probe packed = Probe.fresh(cap);
            packed.fill(1, cap, 5, cap);
            packed.append(6, -1);
            packed.length(cap);
            packed.get(INT, cap, 5);
            Probe gap = Probe.fresh(cap);
            gap.fill(2, cap, 5, cap);
            gap.append(6, -1);
            gap.length(0);
            gap.count(cap);
        }
        Probe symbols = Probe.fresh(4);
        Checks.internMany(symbols.table, 4);
        for (int id = 0; id < 4; id++) {
            symbols.set(SYM, id, 5, true);
        }
        symbols.append(6, -1);
        symbols.count(4);
    }

    private static void addedPastTheBorder() {
        Checks.sentence("else the entry (KEY_INT, n+1) with value is added and it answers n+1");
        Probe empty = Probe.fresh(4);
        empty.append(-1, 1);
        empty.dueTable = "1 border 1: 1=-1";
        empty.lastLook();
        Probe p = Probe.busy();
        p.append(MIN, 3);
        p.dueTable = "6 border 3: -7=70 1=10 2=-20 3=-2147483648 9=90 s1=5";
        p.look();
        p.append(MAX, 4);
        p.dueTable = "7 border 4: -7=70 1=10 2=-20 3=-2147483648 4=2147483647 9=90 s1=5";
        p.look();
        p.set(INT, 1, 0, true);
        p.append(8, 1);
        p.dueTable = "7 border 4: -7=70 1=8 2=-20 3=-2147483648 4=2147483647 9=90 s1=5";
        p.lastLook();
    }

    private static void addedUpToCap() {
        Checks.sentence("else the entry (KEY_INT, n+1) with value is added and it answers n+1 (to the last free one)");
        for (int cap = 4; cap <= 32; cap++) {
            Probe p = Probe.fresh(cap);
            for (int n = 1; n <= cap; n++) {
                p.append(-n, n);
                p.get(INT, n, -n);
                p.count(n);
            }
            p.append(5, -1);
            p.set(INT, cap, 0, true);
            p.append(5, cap);
        }
    }

    private static void lengthAfterwards() {
        Checks.sentence("After a successful append, length() is at least the answer.");
        Probe p = Probe.fresh(8);
        p.append(5, 1);
        p.length(1);
        p.set(INT, 3, 6, true);
        p.set(INT, 4, 6, true);
        p.set(INT, 6, 6, true);
        p.length(1);
        p.append(5, 2);
        p.length(4);
        p.append(5, 5);
        p.length(6);
        p.append(5, 7);
        p.length(7);
        p.append(5, 8);
        p.length(8);
        p.append(5, -1);
        p.length(8);
    }

    private static void elseUnchanged() {
        Checks.sentence("The symbols, PENDING, the record and cap are unchanged. (append)");
        Probe p = Probe.busy();
        p.append(4, 3);
        p.dueTable = "6 border 3: -7=70 1=10 2=-20 3=4 9=90 s1=5";
        p.look();
        p.append(0, -1);
        p.lastLook();
        Probe full = Probe.full();
        full.append(4, -1);
        full.lastLook();
    }
}
