/** The boundary cases of "What it is", a test for each sentence that names one. */
public final class Edges00WhatItIsTest {
    private static final int MIN = Probe.MIN;
    private static final int MAX = Probe.MAX;
    private static final int INT = Probe.INT;
    private static final int SYM = Probe.SYM;
    private static final int NONE = Probe.NONE;
    private static final int ERROR = Probe.ERROR;

    public static void main(String[] args) {
        storingNilDeletes();
        nextFromAnyValidKey();
        arrangementNeverShows();
        noKeyTwice();
        storedValuesAreNonzero();
        atMostCapEntries();
        atMostMaxSymbols();
        idIsThePosition();
        lengthOfAName();
        symbolsStay();
        lengthOfPending();
        recordIsTwoInts();
        intsBeforeSymbols();
        intsAscendSigned();
        symbolsAscendById();
        validKeys();
        arithmeticWraps();
        refusedCallsChangeNothing();
        refusedNameIsDropped();
        Checks.end();
    }

    private static void storingNilDeletes() {
        Checks.sentence("The value 0 stands for nil (absent), so storing 0 deletes a key.");
        Probe p = Probe.busy();
        p.set(INT, 1, 0, true);
        p.get(INT, 1, 0);
        p.dueTable = "4 border 0: -7=70 2=-20 9=90 s1=5";
        p.look();
        p.set(SYM, 1, 0, true);
        p.get(SYM, 1, 0);
        p.dueTable = "3 border 0: -7=70 2=-20 9=90";
        p.lastLook();
    }

    private static void nextFromAnyValidKey() {
        Checks.sentence("From any VALID key (present, deleted or never present), next gives the following present key"
                + " in a fixed canonical order.");
        Probe p = Probe.busy();
        p.set(INT, 2, 0, true);
        p.step(INT, 1, INT, 9, 90);
        p.step(INT, 2, INT, 9, 90);
        p.step(INT, 3, INT, 9, 90);
        p.step(SYM, 0, SYM, 1, 5);
        p.set(SYM, 2, 6, true);
        p.set(SYM, 1, 0, true);
        p.step(SYM, 1, SYM, 2, 6);
        p.step(SYM, 0, SYM, 2, 6);
        p.step(INT, 9, SYM, 2, 6);
    }

    private static void arrangementNeverShows() {
        Checks.sentence("Every answer is defined by the four state parts below and cap alone; the internal arrangement"
                + " of entries never shows.");
        int[] order = {0, 1, 2, 3, 4};
        for (int number = 0; number < 120; number++) {
            inThisOrder(order, number);
        }
    }

    /** The same five entries, put in in the order of that number out of the 120, with one more put in and out. */
    private static void inThisOrder(int[] keys, int number) {
        Probe p = Probe.fresh(6);
        p.intern("b", 0);
        p.intern("a", 1);
        int[] left = keys.clone();
        int rest = number;
        for (int n = left.length; n > 0; n--) {
            int chosen = rest % n;
            rest /= n;
            putIn(p, left[chosen]);
            left[chosen] = left[n - 1];
            p.set(INT, -number, 9, true);
            p.set(INT, -number, 0, true);
        }
        p.dueSymbols = "b a";
        p.dueTable = "5 border 2: 1=11 2=12 77=10 s0=13 s1=14";
        p.lastLook();
    }

    private static void putIn(Probe p, int entry) {
        if (entry >= 3) {
            p.set(SYM, entry - 3, 10 + entry, true);
        } else {
            p.set(INT, entry == 0 ? 77 : entry, 10 + entry, true);
        }
    }

    private static void noKeyTwice() {
        Checks.sentence("No two entries have the same key.");
        Probe p = Probe.busy();
        p.set(INT, 9, 91, true);
        p.set(SYM, 1, 6, true);
        p.fill(9, 1, 92, 1);
        p.dueTable = "5 border 2: -7=70 1=10 2=-20 9=92 s1=6";
        p.look();
        p.set(INT, 9, 0, true);
        p.set(SYM, 1, 0, true);
        p.dueTable = "3 border 2: -7=70 1=10 2=-20";
        p.lastLook();
    }

    private static void storedValuesAreNonzero() {
        Checks.sentence("Every stored value is a nonzero int; value 0 stands for nil (absent).");
        Probe p = Probe.busy();
        p.set(INT, 5, 0, true);
        p.set(SYM, 0, 0, true);
        p.fill(20, 3, 0, 3);
        p.append(0, -1);
        p.lastLook();
    }

    private static void atMostCapEntries() {
        Checks.sentence("There are at most cap entries, where cap is the constructor argument after clamping.");
        for (int cap = 4; cap <= 32; cap++) {
            Probe p = Probe.fresh(cap);
            p.intern("a", 0);
            p.intern("b", 1);
            p.set(SYM, 0, 1, true);
            for (int i = 1; i < cap; i++) {
                p.set(INT, -i, 1, true);
            }
            p.count(cap);
            p.set(INT, -cap, 1, false);
            p.set(SYM, 1, 1, false);
            p.fill(0, 1, 1, 0);
            p.append(1, -1);
            p.count(cap);
        }
    }

    private static void atMostMaxSymbols() {
        Checks.sentence("SYMBOLS: a list of at most MAX_SYMBOLS distinct names.");
        Probe p = Probe.fresh(4);
        Checks.internMany(p.table, 16);
        p.symbolCount(16);
        p.intern("seventh", -1);
        p.symbolCount(16);
        for (int id = 0; id < 16; id++) {
            for (int other = 0; other < id; other++) {
                boolean same = Checks.name(p.table, id).equals(Checks.name(p.table, other));
                Checks.due("names " + other + " and " + id + " are the same", same, false);
            }
        }
    }

    private static void idIsThePosition() {
        Checks.sentence("A symbol's id is its position in the list (0, 1, 2, ..., in order of interning).");
        Probe p = Probe.fresh(4);
        for (int id = 0; id < 16; id++) {
            p.intern("" + (char) ('z' - id), id);
            p.intern("z", 0);
        }
        p.dueSymbols = "z y x w v u t s r q p o n m l k";
        p.lastLook();
    }

    private static void lengthOfAName() {
        Checks.sentence("A name has 1 to MAX_NAME characters, each in 'a'..'z'.");
        Probe p = Probe.fresh(4);
        p.symbolEnd(-1);
        p.symbolCount(0);
        p.intern("a", 0);
        p.intern("zzzzzzzz", 1);
        p.feed("abcdefgh");
        p.symbolChar('i', false);
        p.symbolEnd(2);
        p.dueSymbols = "a zzzzzzzz abcdefgh";
        p.lastLook();
    }

    private static void symbolsStay() {
        Checks.sentence("Symbols are never removed.");
        Probe p = Probe.full();
        p.set(SYM, 0, 0, true);
        p.fill(-10, 64, 0, 64);
        p.purgeBelow(MAX, 3);
        p.clear();
        p.symbolEnd(-1);
        p.duePending = "";
        p.dueTable = "0 border 0:";
        p.look();
        p.intern("s", 0);
        p.intern("tttttttt", 15);
        p.lastLook();
    }

    private static void lengthOfPending() {
        Checks.sentence("PENDING: a name under construction, of 0 to MAX_NAME characters.");
        Probe p = Probe.fresh(4);
        for (int length = 0; length < 8; length++) {
            p.symbolLength(-1, length);
            p.symbolChar('a' + length, true);
        }
        p.symbolLength(-1, 8);
        p.symbolChar('i', false);
        p.symbolLength(-1, 8);
        p.duePending = "abcdefgh";
        p.lastLook();
    }

    private static void recordIsTwoInts() {
        Checks.sentence("RECORD: two ints (lastKey, lastValue), written by next.");
        Probe p = Probe.fresh(4);
        p.set(INT, MIN, MAX, true);
        p.set(INT, MAX, MIN, true);
        p.record(0, 0);
        p.step(NONE, 0, INT, MIN, MAX);
        p.step(INT, MIN, INT, MAX, MIN);
        p.step(INT, MAX, NONE, 0, 0);
    }

    private static void intsBeforeSymbols() {
        Checks.sentence("every KEY_INT key comes before every KEY_SYM key");
        Probe p = Probe.fresh(4);
        p.intern("a", 0);
        p.intern("b", 1);
        p.set(SYM, 0, 1, true);
        p.set(SYM, 1, 2, true);
        p.set(INT, 0, 3, true);
        p.set(INT, MAX, 4, true);
        p.dueSymbols = "a b";
        p.dueTable = "4 border 0: 0=3 2147483647=4 s0=1 s1=2";
        p.lastLook();
    }

    private static void intsAscendSigned() {
        Checks.sentence("KEY_INT keys ascend by signed int value");
        Probe p = Probe.fresh(8);
        for (int key : new int[] {0, MAX, -1, MIN, 1, MIN + 1, MAX - 1}) {
            p.set(INT, key, 5, true);
        }
        p.dueTable = "7 border 1: -2147483648=5 -2147483647=5 -1=5 0=5 1=5 2147483646=5 2147483647=5";
        p.lastLook();
    }

    private static void symbolsAscendById() {
        Checks.sentence("KEY_SYM keys ascend by id");
        Probe p = Probe.fresh(16);
        for (int id = 0; id < 16; id++) {
            p.intern("" + (char) ('z' - id), id);
        }
        StringBuilder want = new StringBuilder("16 border 0:");
        for (int id = 0; id < 16; id++) {
            p.set(SYM, 15 - id, 115 - id, true);
            want.append(" s").append(id).append('=').append(100 + id);
        }
        p.dueSymbols = "z y x w v u t s r q p o n m l k";
        p.dueTable = want.toString();
        p.lastLook();
    }

    private static void validKeys() {
        Checks.sentence("A key is VALID if its kind is KEY_INT, or if its kind is KEY_SYM and its number is in"
                + " 0..symbolCount()-1.");
        Probe p = Probe.fresh(32);
        for (int symbols = 0; symbols <= 16; symbols++) {
            Checks.internMany(p.table, symbols);
            for (int key : new int[] {MIN, -1, 0, symbols - 1, symbols, symbols + 1, 15, 16, 17, MAX}) {
                validity(p, SYM, key, key >= 0 && key < symbols);
                validity(p, INT, key, true);
                for (int kind : Probe.BAD_KINDS) {
                    if (kind != NONE) {
                        validity(p, kind, key, false);
                    }
                }
            }
        }
    }

    private static void validity(Probe p, int kind, int key, boolean valid) {
        p.set(kind, key, 7, valid);
        p.get(kind, key, valid ? 7 : 0);
        p.next(kind, key, valid ? NONE : ERROR);
        p.set(kind, key, 0, valid);
    }

    private static void arithmeticWraps() {
        Checks.sentence("Arithmetic wraps as Java int arithmetic.");
        Probe p = Probe.fresh(4);
        p.fill(MAX, 3, 5, 3);
        p.dueTable = "3 border 0: -2147483648=5 -2147483647=5 2147483647=5";
        p.lastLook();
    }

    private static void refusedCallsChangeNothing() {
        Checks.sentence("A refused call changes nothing.");
        for (Probe p : Probe.each()) {
            int symbols = p.table.symbolCount();
            p.symbolChar('A', false);
            p.symbolLength(symbols, -1);
            p.symbolCharAt(-2, 0, 0);
            p.set(2, 1, 5, false);
            p.set(SYM, symbols, 5, false);
            p.set(SYM, -1, 0, false);
            p.get(-1, 1, 0);
            p.next(3, 1, ERROR);
            p.next(SYM, symbols, ERROR);
            p.fill(1, -1, 5, -1);
            p.fill(1, 65, 5, -1);
            p.append(0, -1);
            p.lastLook();
        }
        Probe full = Probe.full();
        full.symbolChar('a', false);
        full.set(INT, 3, 5, false);
        full.set(SYM, 2, 5, false);
        full.fill(3, 1, 5, 0);
        full.append(5, -1);
        full.lastLook();
        Probe fresh = Probe.fresh(4);
        fresh.symbolEnd(-1);
        fresh.lastLook();
    }

    private static void refusedNameIsDropped() {
        Checks.sentence("(The one exception is step 3 of symbolEnd, which answers -1 but still empties PENDING.)");
        Probe p = Probe.full();
        p.symbolEnd(-1);
        p.duePending = "";
        p.look();
        p.feed("s");
        p.duePending = "s";
        p.look();
        p.symbolEnd(0);
        p.duePending = "";
        p.lastLook();
    }
}
