/** The boundary cases of promise 10, a test for each sentence that names one. */
public final class Edges10NextTest {
    private static final int MIN = Probe.MIN;
    private static final int MAX = Probe.MAX;
    private static final int INT = Probe.INT;
    private static final int SYM = Probe.SYM;
    private static final int NONE = Probe.NONE;
    private static final int ERROR = Probe.ERROR;

    public static void main(String[] args) {
        badKind();
        symbolOutside();
        refusedKeepsTheRecord();
        firstOfAll();
        strictlyAfter();
        fromTheGreatestInt();
        fromTheHighestSymbol();
        found();
        noneFound();
        elseUnchanged();
        laterChanges();
        onlyAcceptedNextWrites();
        asOftenAsCount();
        ascendingAndEveryKey();
        valueIsThatOfGet();
        removingWhatWasYielded();
        Checks.end();
    }

    private static void badKind() {
        Checks.sentence("If kind is not one of KEY_INT, KEY_SYM, KEY_NONE, it answers KEY_ERROR.");
        for (Probe p : Probe.each()) {
            for (int kind : Probe.BAD_KINDS) {
                if (kind != NONE) {
                    for (int key : new int[] {MIN, -7, -1, 0, 1, 2, MAX}) {
                        p.next(kind, key, ERROR);
                    }
                }
            }
            p.next(258, 0, ERROR);
            p.next(65538, 0, ERROR);
            p.next(MIN + 2, 0, ERROR);
            p.lastLook();
        }
    }

    private static void symbolOutside() {
        Checks.sentence("If kind == KEY_SYM and key is not in 0..symbolCount()-1, it answers KEY_ERROR.");
        for (Probe p : Probe.each()) {
            int symbols = p.table.symbolCount();
            for (int key : new int[] {MIN, -2, -1, symbols, symbols + 1, 16, 17, 256, MAX}) {
                p.next(SYM, key, ERROR);
            }
            p.lastLook();
        }
        Probe grows = Probe.fresh(4);
        for (int symbols = 0; symbols < 16; symbols++) {
            grows.next(SYM, symbols, ERROR);
            Checks.internMany(grows.table, symbols + 1);
            grows.next(SYM, symbols, NONE);
        }
    }

    private static void refusedKeepsTheRecord() {
        Checks.sentence("Refused calls change nothing, and the record is kept.");
        for (Probe p : Probe.each()) {
            p.next(ERROR, 1, ERROR);
            p.look();
            p.next(3, 1, ERROR);
            p.look();
            p.next(SYM, -1, ERROR);
            p.look();
            p.next(SYM, p.table.symbolCount(), ERROR);
            p.lastLook();
        }
    }

    private static void firstOfAll() {
        Checks.sentence("For KEY_NONE: the first present key in CANONICAL ORDER. key is ignored.");
        Probe p = Probe.busy();
        for (int key : new int[] {MIN, -7, -1, 0, 1, 2, 3, 9, 16, MAX}) {
            p.step(NONE, key, INT, -7, 70);
            p.step(INT, -7, INT, 1, 10);
        }
        p.set(INT, MIN, 3, true);
        p.step(NONE, MAX, INT, MIN, 3);
        p.fill(-7, 64, 0, 64);
        p.set(INT, MIN, 0, true);
        p.step(NONE, 2, SYM, 1, 5);
        p.set(SYM, 0, 4, true);
        p.step(NONE, 2, SYM, 0, 4);
    }

    private static void strictlyAfter() {
        Checks.sentence("For KEY_INT or KEY_SYM: the first present key strictly after (kind, key) in CANONICAL ORDER,"
                + " whether or not (kind, key) itself is present.");
        Probe p = Probe.fresh(8);
        Checks.internMany(p.table, 4);
        p.set(INT, MIN, 1, true);
        p.set(INT, 0, 2, true);
        p.set(INT, 1, 3, true);
        p.set(SYM, 1, 4, true);
        p.set(SYM, 2, 5, true);
        p.step(INT, MIN, INT, 0, 2);
        p.step(INT, MIN + 1, INT, 0, 2);
        p.step(INT, -1, INT, 0, 2);
        p.step(INT, 0, INT, 1, 3);
        p.step(INT, 1, SYM, 1, 4);
        p.step(INT, 2, SYM, 1, 4);
        p.step(SYM, 0, SYM, 1, 4);
        p.step(SYM, 1, SYM, 2, 5);
        p.step(SYM, 2, NONE, 0, 0);
        p.step(SYM, 3, NONE, 0, 0);
        p.set(INT, 0, 0, true);
        p.step(INT, 0, INT, 1, 3);
        p.step(INT, MIN, INT, 1, 3);
        p.set(SYM, 1, 0, true);
        p.step(SYM, 1, SYM, 2, 5);
        p.step(INT, 1, SYM, 2, 5);
    }

    private static void fromTheGreatestInt() {
        Checks.sentence("From (KEY_INT, Integer.MAX_VALUE), the next candidates are the KEY_SYM keys in id order.");
        Probe p = Probe.fresh(8);
        Checks.internMany(p.table, 3);
        p.set(INT, MIN, 1, true);
        p.set(INT, 0, 2, true);
        p.step(INT, MAX, NONE, 0, 0);
        p.set(SYM, 2, 3, true);
        p.step(INT, MAX, SYM, 2, 3);
        p.set(SYM, 0, 4, true);
        p.step(INT, MAX, SYM, 0, 4);
        p.set(INT, MAX, 5, true);
        p.step(INT, MAX, SYM, 0, 4);
        p.step(INT, MAX - 1, INT, MAX, 5);
        p.set(SYM, 0, 0, true);
        p.step(INT, MAX, SYM, 2, 3);
        p.set(SYM, 2, 0, true);
        p.step(INT, MAX, NONE, 0, 0);
    }

    private static void fromTheHighestSymbol() {
        Checks.sentence("From the highest valid symbol id, no key follows.");
        Probe p = Probe.full();
        p.step(SYM, 15, NONE, 0, 0);
        p.step(SYM, 14, SYM, 15, -3);
        p.set(SYM, 15, 0, true);
        p.step(SYM, 15, NONE, 0, 0);
        p.step(SYM, 14, NONE, 0, 0);
        Probe one = Probe.fresh(4);
        one.intern("a", 0);
        one.fill(-1, 3, 5, 3);
        one.set(SYM, 0, 6, true);
        one.step(SYM, 0, NONE, 0, 0);
        one.intern("b", 1);
        one.step(SYM, 0, NONE, 0, 0);
        one.step(SYM, 1, NONE, 0, 0);
    }

    private static void found() {
        Checks.sentence("If a key is found, the record becomes (its number, its value) and its kind (KEY_INT or"
                + " KEY_SYM) is answered. For a symbol key the number is its id.");
        Probe p = Probe.full();
        p.step(NONE, 0, INT, -7, 71);
        p.step(INT, 9, INT, MAX, 7);
        p.step(INT, MAX, SYM, 0, 6);
        p.step(SYM, 1, SYM, 15, -3);
        p.lastLook();
        Probe odd = Probe.fresh(4);
        odd.intern("zz", 0);
        odd.set(INT, MIN, MIN, true);
        odd.set(INT, 0, -1, true);
        odd.set(SYM, 0, MAX, true);
        odd.step(NONE, 0, INT, MIN, MIN);
        odd.step(INT, MIN, INT, 0, -1);
        odd.step(INT, 0, SYM, 0, MAX);
    }

    private static void noneFound() {
        Checks.sentence("If none is found, the record becomes (0, 0) and KEY_NONE is answered.");
        Probe p = Probe.busy();
        p.step(SYM, 1, NONE, 0, 0);
        p.look();
        p.step(INT, 9, SYM, 1, 5);
        p.clear();
        p.dueTable = "0 border 0:";
        p.step(NONE, 7, NONE, 0, 0);
        p.set(INT, 3, 4, true);
        p.step(INT, 2, INT, 3, 4);
        p.step(INT, 3, NONE, 0, 0);
        p.step(INT, 2, INT, 3, 4);
        p.step(INT, MAX, NONE, 0, 0);
        Probe empty = Probe.fresh(4);
        for (int key : new int[] {MIN, -1, 0, 1, MAX}) {
            empty.step(NONE, key, NONE, 0, 0);
            empty.step(INT, key, NONE, 0, 0);
        }
        empty.lastLook();
    }

    private static void elseUnchanged() {
        Checks.sentence("next never changes the table, the symbols, PENDING or cap.");
        Probe p = Probe.full();
        p.step(NONE, 0, INT, -7, 71);
        p.look();
        p.step(INT, -7, INT, 1, 10);
        p.look();
        p.step(INT, MAX, SYM, 0, 6);
        p.look();
        p.step(SYM, 15, NONE, 0, 0);
        p.look();
        p.next(SYM, 16, ERROR);
        p.lastLook();
    }

    private static void laterChanges() {
        Checks.sentence("lastValue() answers lastValue of the record: the value at the time of that next call. Later"
                + " changes to the table do not alter the record.");
        Probe p = Probe.busy();
        p.step(INT, 2, INT, 9, 90);
        p.set(INT, 9, 91, true);
        p.record(9, 90);
        p.fill(9, 1, 92, 1);
        p.record(9, 90);
        p.set(INT, 9, 0, true);
        p.record(9, 90);
        p.set(INT, 8, 80, true);
        p.record(9, 90);
        p.purgeBelow(MAX, 5);
        p.record(9, 90);
        p.append(3, 1);
        p.record(9, 90);
        p.clear();
        p.record(9, 90);
        p.step(INT, 2, NONE, 0, 0);
        p.set(INT, 1, 1, true);
        p.record(0, 0);
    }

    private static void onlyAcceptedNextWrites() {
        Checks.sentence("Only an accepted next writes it.");
        for (Probe p : Probe.each()) {
            int key = p.table.lastKey();
            int value = p.table.lastValue();
            p.table.symbolChar('a');
            p.table.symbolEnd();
            p.table.symbolEnd();
            p.table.symbolLength(0);
            p.table.symbolCharAt(0, 0);
            p.table.symbolCount();
            p.table.get(INT, 1);
            p.table.get(SYM, 0);
            p.table.count();
            p.table.length();
            p.table.fill(3, 64, 5);
            p.table.fill(3, 65, 5);
            p.table.append(6);
            p.table.append(0);
            p.table.set(INT, 1, 7);
            p.table.set(SYM, 0, 8);
            p.table.set(SYM, -1, 8);
            p.table.next(ERROR, 1);
            p.table.next(SYM, -1);
            p.table.lastKey();
            p.table.lastValue();
            p.table.purgeBelow(8);
            p.table.clear();
            p.record(key, value);
        }
    }

    private static void asOftenAsCount() {
        Checks.sentence("It answers KEY_INT or KEY_SYM exactly as many times as count() answered when the traversal"
                + " began.");
        for (int entries = 0; entries <= 32; entries++) {
            Probe p = withEntries(entries);
            p.count(entries);
            int kind = p.table.next(NONE, 0);
            int times = 0;
            while (kind != NONE && times <= 32) {
                times++;
                kind = p.table.next(kind, p.table.lastKey());
            }
            Checks.due("times", times, entries);
            p.record(0, 0);
        }
    }

    /** A table of cap 32, with symbols in the first 16 of its entries and ints of both signs in the others. */
    private static Probe withEntries(int entries) {
        Probe p = Probe.fresh(32);
        Checks.internMany(p.table, 16);
        for (int i = 0; i < entries; i++) {
            if (i < 16) {
                p.set(SYM, (i * 7 + 3) % 16, i + 1, true);
            } else {
                p.set(INT, (i * 11 % 32 - 16) * 1000, -i, true);
            }
        }
        return p;
    }

    private static void ascendingAndEveryKey() {
        Checks.sentence("It yields keys strictly ascending in CANONICAL ORDER, never the same key twice, and every"
                + " present key.");
        Probe p = Probe.fresh(32);
        Checks.internMany(p.table, 16);
        for (int i = 15; i >= 0; i--) {
            p.set(SYM, i, 1 + i, true);
            p.set(INT, (i - 8) << 28, -1 - i, true);
        }
        int kind = NONE;
        for (int i = 0; i < 16; i++) {
            p.step(kind, p.table.lastKey(), INT, (i - 8) << 28, -1 - i);
            kind = INT;
        }
        for (int i = 0; i < 16; i++) {
            p.step(kind, p.table.lastKey(), SYM, i, 1 + i);
            kind = SYM;
        }
        p.step(SYM, 15, NONE, 0, 0);
    }

    private static void valueIsThatOfGet() {
        Checks.sentence("After each step that answers KEY_INT or KEY_SYM, lastValue() == get(k, lastKey()) != 0.");
        for (int entries : new int[] {1, 16, 17, 32}) {
            Probe p = withEntries(entries);
            int kind = p.table.next(NONE, 0);
            for (int step = 0; step < entries; step++) {
                p.get(kind, p.table.lastKey(), p.table.lastValue());
                Checks.due("lastValue() == 0", p.table.lastValue() == 0, false);
                kind = p.table.next(kind, p.table.lastKey());
            }
            Checks.due("the last answer", kind, NONE);
        }
    }

    private static void removingWhatWasYielded() {
        Checks.sentence("All of this stays true if, between steps, set(k, lastKey(), 0) removes the key just yielded");
        for (int every = 1; every <= 3; every++) {
            Probe p = Probe.full();
            int[] keys = {-7, 1, 2, 9, MAX, 0, 1, 15};
            int[] values = {71, 10, -20, 90, 7, 6, 5, -3};
            int kind = NONE;
            for (int i = 0; i < 8; i++) {
                int found = i < 5 ? INT : SYM;
                p.step(kind, p.table.lastKey(), found, keys[i], values[i]);
                p.get(found, keys[i], values[i]);
                if (i % every == 0) {
                    p.set(found, p.table.lastKey(), 0, true);
                }
                kind = found;
            }
            p.step(kind, p.table.lastKey(), NONE, 0, 0);
            p.count(8 - (7 / every + 1));
        }
    }
}
