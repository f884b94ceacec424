/**
 * A table under test. Each call is made together with the answer that is due, and the four parts of the state that are
 * due stand in fields: a test changes the part that should have changed, and look() compares them all.
 */
final class Probe {
    static final int MIN = Integer.MIN_VALUE;
    static final int MAX = Integer.MAX_VALUE;
    static final int INT = HybridTables.KEY_INT;
    static final int SYM = HybridTables.KEY_SYM;
    static final int NONE = HybridTables.KEY_NONE;
    static final int ERROR = HybridTables.KEY_ERROR;

    /** Neither KEY_INT nor KEY_SYM, though some are if only their low bits are looked at. */
    static final int[] BAD_KINDS = {-1, 2, 3, -2, 4, 256, 257, 65536, 65537, MIN, MIN + 1, MAX - 1, MAX};

    final HybridTables table;
    final int dueCap;
    String dueSymbols = "";
    String duePending = "";
    String dueRecord = "0 0";
    String dueTable = "0 border 0:";

    private Probe(HybridTables table, int dueCap) {
        this.table = table;
        this.dueCap = dueCap;
    }

    static Probe made(int maxKeys, int dueCap) {
        return new Probe(new HybridTables(maxKeys), dueCap);
    }

    static Probe fresh(int cap) {
        return made(cap, cap);
    }

    /** Something in every part of the state, and room left in each. */
    static Probe busy() {
        Probe p = new Probe(Checks.busy(), 8);
        p.dueSymbols = "x abcdefgh yy";
        p.duePending = "pq";
        p.dueRecord = "-7 70";
        p.dueTable = "5 border 2: -7=70 1=10 2=-20 9=90 s1=5";
        return p;
    }

    /** No room left in any part of the state; the record tells a value that the table no longer has. */
    static Probe full() {
        Probe p = fresh(8);
        Checks.internMany(p.table, 16);
        p.feed("abcdefgh");
        p.set(INT, -7, 70, true);
        p.step(NONE, 0, INT, -7, 70);
        int[] ints = {-7, 71, 1, 10, 2, -20, 9, 90, MAX, 7};
        for (int i = 0; i < ints.length; i += 2) {
            p.set(INT, ints[i], ints[i + 1], true);
        }
        p.set(SYM, 0, 6, true);
        p.set(SYM, 1, 5, true);
        p.set(SYM, 15, -3, true);
        p.dueSymbols = "s ss sss ssss sssss ssssss sssssss ssssssss t tt ttt tttt ttttt tttttt ttttttt tttttttt";
        p.duePending = "abcdefgh";
        p.dueRecord = "-7 70";
        p.dueTable = "8 border 2: -7=71 1=10 2=-20 9=90 2147483647=7 s0=6 s1=5 s15=-3";
        return p;
    }

    /** An empty, a half full and a full one, for what has to hold in any state. */
    static Probe[] each() {
        return new Probe[] {fresh(4), busy(), full()};
    }

    void symbolChar(int c, boolean want) {
        Checks.due("symbolChar((char) " + c + ")", table.symbolChar((char) c), want);
    }

    void feed(String name) {
        for (int i = 0; i < name.length(); i++) {
            symbolChar(name.charAt(i), true);
        }
    }

    void symbolEnd(int want) {
        Checks.due("symbolEnd() of " + Checks.pending(table), table.symbolEnd(), want);
    }

    void intern(String name, int want) {
        feed(name);
        symbolEnd(want);
    }

    void symbolCount(int want) {
        Checks.due("symbolCount()", table.symbolCount(), want);
    }

    void symbolLength(int id, int want) {
        Checks.due("symbolLength(" + id + ")", table.symbolLength(id), want);
    }

    void symbolCharAt(int id, int i, int want) {
        Checks.due("symbolCharAt(" + id + ", " + i + ")", table.symbolCharAt(id, i), want);
    }

    void set(int kind, int key, int value, boolean want) {
        Checks.due("set(" + kind + ", " + key + ", " + value + ")", table.set(kind, key, value), want);
    }

    void get(int kind, int key, int want) {
        Checks.due("get(" + kind + ", " + key + ")", table.get(kind, key), want);
    }

    void count(int want) {
        Checks.due("count()", table.count(), want);
    }

    void length(int want) {
        Checks.due("length()", table.length(), want);
    }

    void next(int kind, int key, int want) {
        Checks.due("next(" + kind + ", " + key + ")", table.next(kind, key), want);
    }

    void record(int key, int value) {
        Checks.due("lastKey()", table.lastKey(), key);
        Checks.due("lastValue()", table.lastValue(), value);
    }

    /** An accepted next, with the record that it has to write. */
    void step(int kind, int key, int want, int number, int value) {
        next(kind, key, want);
        record(number, value);
        dueRecord = number + " " + value;
    }

    void fill(int first, int n, int value, int want) {
        Checks.due("fill(" + first + ", " + n + ", " + value + ")", table.fill(first, n, value), want);
    }

    void append(int value, int want) {
        Checks.due("append(" + value + ")", table.append(value), want);
    }

    void purgeBelow(int limit, int want) {
        Checks.due("purgeBelow(" + limit + ")", table.purgeBelow(limit), want);
    }

    void clear() {
        table.clear();
    }

    /** Compares every part of the state with what is due. */
    void look() {
        String symbols = dueSymbols.isEmpty() ? "symbols" : "symbols " + dueSymbols;
        Checks.due("the symbols", Checks.symbols(table), symbols);
        Checks.due("the pending name", Checks.pending(table), "pending " + duePending);
        Checks.due("the record", Checks.record(table), "record " + dueRecord);
        Checks.due("the table", Checks.table(table), "table of " + dueTable);
    }

    /** Looks, and then at what uses the state up: a traversal, and cap, which shows in how many keys go in. */
    void lastLook() {
        look();
        Checks.due("the traversal", traversal(), dueTable.substring(dueTable.indexOf(':') + 1));
        Checks.due("cap", Checks.capOf(table), dueCap);
    }

    private String traversal() {
        StringBuilder text = new StringBuilder();
        int kind = table.next(NONE, 0);
        for (int steps = 0; kind != NONE && steps <= HybridTables.MAX_CAP; steps++) {
            text.append(kind == SYM ? " s" : " ").append(table.lastKey()).append('=').append(table.lastValue());
            kind = table.next(kind, table.lastKey());
        }
        return text.toString();
    }
}
