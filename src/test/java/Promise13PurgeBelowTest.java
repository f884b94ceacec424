/** Promise 13: purgeBelow removes every value below the limit and keeps the others. */
public final class Promise13PurgeBelowTest {
    public static void main(String[] args) {
        limits();
        extremes();
        everyPattern();
        Checks.end();
    }

    private static void limits() {
        purge(Checks.MIN, 0, "5 border 2: -7=70 1=10 2=-20 9=90 s1=5");
        purge(-20, 0, "5 border 2: -7=70 1=10 2=-20 9=90 s1=5");
        purge(-19, 1, "4 border 1: -7=70 1=10 9=90 s1=5");
        purge(0, 1, "4 border 1: -7=70 1=10 9=90 s1=5");
        purge(5, 1, "4 border 1: -7=70 1=10 9=90 s1=5");
        purge(6, 2, "3 border 1: -7=70 1=10 9=90");
        purge(11, 3, "2 border 0: -7=70 9=90");
        purge(71, 4, "1 border 0: 9=90");
        purge(90, 4, "1 border 0: 9=90");
        purge(91, 5, "0 border 0:");
        purge(Checks.MAX, 5, "0 border 0:");
    }

    private static void purge(int limit, int removed, String want) {
        HybridTables t = Checks.busy();
        Checks.due("purgeBelow(" + limit + ")", t.purgeBelow(limit), removed);
        Checks.due("state", Checks.state(t), Checks.BUSY_BESIDE_TABLE + "; table of " + want);
        Checks.due("purgeBelow(" + limit + ") again", t.purgeBelow(limit), 0);
        Checks.due("state", Checks.state(t), Checks.BUSY_BESIDE_TABLE + "; table of " + want);
        Checks.due("cap", Checks.capOf(t), 8);
    }

    private static void extremes() {
        HybridTables t = new HybridTables(4);
        Checks.due("purgeBelow(MAX) of an empty table", t.purgeBelow(Checks.MAX), 0);
        Checks.due("purgeBelow(MIN) of an empty table", t.purgeBelow(Checks.MIN), 0);
        t.set(Checks.INT, 1, Checks.MIN);
        t.set(Checks.INT, 2, Checks.MAX);
        t.set(Checks.INT, 3, Checks.MIN + 1);
        Checks.due("purgeBelow(MIN)", t.purgeBelow(Checks.MIN), 0);
        Checks.due("purgeBelow(MIN + 1)", t.purgeBelow(Checks.MIN + 1), 1);
        Checks.due("purgeBelow(MAX)", t.purgeBelow(Checks.MAX), 1);
        Checks.due("count()", t.count(), 1);
        Checks.due("get(KEY_INT, 2)", t.get(Checks.INT, 2), Checks.MAX);
    }

    /** Every choice of what goes out of 8 neighbours, half of them symbols, seen by next as well. */
    private static void everyPattern() {
        for (int bits = 0; bits < 1 << 8; bits++) {
            HybridTables t = new HybridTables(8);
            Checks.internMany(t, 4);
            for (int i = 7; i >= 0; i--) {
                t.set(i < 4 ? Checks.INT : Checks.SYM, i % 4, (bits >> i & 1) == 1 ? -1 - i : 1 + i);
            }
            Checks.due("purgeBelow(0) of pattern " + bits, t.purgeBelow(0), Integer.bitCount(bits));
            Checks.due("count()", t.count(), 8 - Integer.bitCount(bits));
            int kind = Checks.NONE;
            for (int i = 0; i < 8; i++) {
                if ((bits >> i & 1) == 0) {
                    kind = t.next(kind, t.lastKey());
                    Checks.due("kind of " + i, kind, i < 4 ? Checks.INT : Checks.SYM);
                    Checks.due("record of " + i, Checks.record(t), "record " + i % 4 + " " + (1 + i));
                }
            }
            Checks.due("the end of pattern " + bits, t.next(kind, t.lastKey()), Checks.NONE);
        }
    }
}
