/** The boundary cases of promise 6, a test for each sentence that names one. */
public final class Edges06SetTest {
    private static final int MIN = Probe.MIN;
    private static final int MAX = Probe.MAX;
    private static final int INT = Probe.INT;
    private static final int SYM = Probe.SYM;

    public static void main(String[] args) {
        badKind();
        symbolOutside();
        notValidEvenForNil();
        nilRemoves();
        nilOfAnAbsentKey();
        presentKey();
        presentKeyInAFullTable();
        absentKeyInAFullTable();
        addedUpToCap();
        anyIntKey();
        anyNonzeroValue();
        elseUnchanged();
        noOtherEntry();
        Checks.end();
    }

    private static void badKind() {
        Checks.sentence("The key is not VALID. Answers false. This happens when: kind is neither KEY_INT nor KEY_SYM");
        for (Probe p : Probe.each()) {
            for (int kind : Probe.BAD_KINDS) {
                for (int key : new int[] {MIN, -7, -1, 0, 1, 2, 9, MAX}) {
                    p.set(kind, key, 5, false);
                    p.set(kind, key, -5, false);
                }
            }
            p.lastLook();
        }
    }

    private static void symbolOutside() {
        Checks.sentence("The key is not VALID. Answers false. This happens when: kind == KEY_SYM and key is outside"
                + " 0..symbolCount()-1");
        for (Probe p : Probe.each()) {
            int symbols = p.table.symbolCount();
            for (int key : new int[] {-1, -2, MIN, symbols, symbols + 1, 16, 17, 32, 256, MAX}) {
                p.set(SYM, key, 5, false);
            }
            p.lastLook();
        }
        Probe grows = Probe.fresh(32);
        for (int symbols = 0; symbols < 16; symbols++) {
            grows.set(SYM, symbols, 5, false);
            Checks.internMany(grows.table, symbols + 1);
            grows.set(SYM, symbols, 5, true);
        }
        grows.set(SYM, 16, 5, false);
        grows.count(16);
    }

    private static void notValidEvenForNil() {
        Checks.sentence("This holds even when value == 0.");
        for (Probe p : Probe.each()) {
            int symbols = p.table.symbolCount();
            for (int kind : Probe.BAD_KINDS) {
                for (int key : new int[] {-7, 0, 1, 2, 9}) {
                    p.set(kind, key, 0, false);
                }
            }
            for (int key : new int[] {-7, -1, symbols, 16, MIN, MAX}) {
                p.set(SYM, key, 0, false);
            }
            p.lastLook();
        }
    }

    private static void nilRemoves() {
        Checks.sentence("value == 0. The entry with this key is removed if present, and it answers true.");
        Probe p = Probe.full();
        p.set(INT, -7, 0, true);
        p.dueTable = "7 border 2: 1=10 2=-20 9=90 2147483647=7 s0=6 s1=5 s15=-3";
        p.look();
        p.set(SYM, 15, 0, true);
        p.dueTable = "6 border 2: 1=10 2=-20 9=90 2147483647=7 s0=6 s1=5";
        p.look();
        p.set(INT, MAX, 0, true);
        p.dueTable = "5 border 2: 1=10 2=-20 9=90 s0=6 s1=5";
        p.look();
        p.set(SYM, 0, 0, true);
        p.dueTable = "4 border 2: 1=10 2=-20 9=90 s1=5";
        p.lastLook();
        Probe one = Probe.fresh(4);
        one.set(INT, MIN, 5, true);
        one.set(INT, MIN, 0, true);
        one.lastLook();
    }

    private static void nilOfAnAbsentKey() {
        Checks.sentence("If the key is absent, it still answers true and nothing changes.");
        for (Probe p : Probe.each()) {
            for (int key : new int[] {MIN, -8, -6, -1, 0, 3, 8, 10, MAX - 1}) {
                p.set(INT, key, 0, true);
            }
            if (p.table.symbolCount() > 2) {
                p.set(SYM, 2, 0, true);
            }
            p.lastLook();
        }
        Probe again = Probe.busy();
        again.set(INT, 9, 0, true);
        again.set(INT, 9, 0, true);
        again.set(SYM, 1, 0, true);
        again.set(SYM, 1, 0, true);
        again.dueTable = "3 border 2: -7=70 1=10 2=-20";
        again.lastLook();
    }

    private static void presentKey() {
        Checks.sentence("The key is present. Its value becomes value and it answers true. The count is unchanged.");
        Probe p = Probe.busy();
        p.set(INT, -7, MIN, true);
        p.set(INT, 9, 90, true);
        p.set(INT, 1, -1, true);
        p.set(SYM, 1, MAX, true);
        p.count(5);
        p.dueTable = "5 border 2: -7=-2147483648 1=-1 2=-20 9=90 s1=2147483647";
        p.lastLook();
    }

    private static void presentKeyInAFullTable() {
        Checks.sentence("The key is present. Its value becomes value and it answers true. (in a full table too)");
        Probe p = Probe.full();
        p.set(INT, -7, 1, true);
        p.set(INT, MAX, 2, true);
        p.set(SYM, 15, 3, true);
        p.dueTable = "8 border 2: -7=1 1=10 2=-20 9=90 2147483647=2 s0=6 s1=5 s15=3";
        p.lastLook();
    }

    private static void absentKeyInAFullTable() {
        Checks.sentence("The key is absent and count() == cap. Answers false.");
        for (int cap = 4; cap <= 32; cap++) {
            Probe p = Probe.fresh(cap);
            p.intern("a", 0);
            p.fill(1, cap, 5, cap);
            p.set(INT, 0, 5, false);
            p.set(INT, cap + 1, 5, false);
            p.set(INT, MIN, 5, false);
            p.set(INT, MAX, 5, false);
            p.set(SYM, 0, 5, false);
            p.count(cap);
            p.set(INT, cap, 0, true);
            p.set(SYM, 0, 5, true);
            p.set(INT, cap, 5, false);
            p.count(cap);
        }
        Probe full = Probe.full();
        full.set(INT, 3, 5, false);
        full.set(SYM, 2, 5, false);
        full.lastLook();
    }

    private static void addedUpToCap() {
        Checks.sentence("The entry (key, value) is added, the count grows by one, and it answers true.");
        for (int cap : new int[] {4, 5, 31, 32}) {
            Probe p = Probe.fresh(cap);
            p.intern("a", 0);
            for (int n = 0; n < cap - 1; n++) {
                p.count(n);
                p.set(INT, -n, n + 1, true);
                p.get(INT, -n, n + 1);
            }
            p.count(cap - 1);
            p.set(SYM, 0, 8, true);
            p.get(SYM, 0, 8);
            p.count(cap);
        }
    }

    private static void anyIntKey() {
        Checks.sentence("Any int is accepted as a KEY_INT number, including negatives, 0, Integer.MIN_VALUE and"
                + " Integer.MAX_VALUE.");
        Probe p = Probe.fresh(8);
        for (int key : new int[] {MAX, 0, -1, MIN, -2, MAX - 1, MIN + 1}) {
            p.set(INT, key, 5, true);
            p.get(INT, key, 5);
        }
        p.dueTable = "7 border 0: -2147483648=5 -2147483647=5 -2=5 -1=5 0=5 2147483646=5 2147483647=5";
        p.lastLook();
    }

    private static void anyNonzeroValue() {
        Checks.sentence("Any nonzero int, negative ones included, is a storable value.");
        Probe p = Probe.fresh(8);
        p.intern("a", 0);
        int[] values = {-1, 1, MIN, MIN + 1, MAX, 256, 65536};
        for (int i = 0; i < values.length; i++) {
            p.set(INT, i, values[i], true);
            p.get(INT, i, values[i]);
            p.set(SYM, 0, values[i], true);
            p.get(SYM, 0, values[i]);
        }
        p.dueSymbols = "a";
        p.dueTable = "8 border 6: 0=-1 1=1 2=-2147483648 3=-2147483647 4=2147483647 5=256 6=65536 s0=65536";
        p.lastLook();
    }

    private static void elseUnchanged() {
        Checks.sentence("The symbols, PENDING, the record and cap are never changed by set.");
        Probe p = Probe.busy();
        p.set(INT, 3, 33, true);
        p.set(SYM, 0, 1, true);
        p.dueTable = "7 border 3: -7=70 1=10 2=-20 3=33 9=90 s0=1 s1=5";
        p.look();
        p.set(INT, -7, -70, true);
        p.dueTable = "7 border 3: -7=-70 1=10 2=-20 3=33 9=90 s0=1 s1=5";
        p.look();
        p.set(INT, -7, 0, true);
        p.set(SYM, 0, 0, true);
        p.dueTable = "5 border 3: 1=10 2=-20 3=33 9=90 s1=5";
        p.look();
        p.set(SYM, 3, 1, false);
        p.lastLook();
        Probe full = Probe.full();
        full.set(INT, 3, 1, false);
        full.lastLook();
    }

    private static void noOtherEntry() {
        Checks.sentence("No entry other than the one with the given key is affected.");
        Probe p = Probe.fresh(4);
        p.intern("a", 0);
        p.intern("b", 1);
        p.dueSymbols = "a b";
        p.set(INT, 1, 4, true);
        p.set(SYM, 1, 5, true);
        p.dueTable = "2 border 1: 1=4 s1=5";
        p.look();
        p.set(INT, 0, 6, true);
        p.set(SYM, 0, 7, true);
        p.dueTable = "4 border 1: 0=6 1=4 s0=7 s1=5";
        p.look();
        p.set(INT, 1, 0, true);
        p.dueTable = "3 border 0: 0=6 s0=7 s1=5";
        p.look();
        p.set(SYM, 0, 0, true);
        p.dueTable = "2 border 0: 0=6 s1=5";
        p.lastLook();
    }
}
