/** The boundary cases of promise 13, a test for each sentence that names one. */
public final class Edges13PurgeBelowTest {
    private static final int MIN = Probe.MIN;
    private static final int MAX = Probe.MAX;
    private static final int INT = Probe.INT;
    private static final int SYM = Probe.SYM;

    public static void main(String[] args) {
        everyEntryIsVisited();
        lessThanLimitSigned();
        numberRemoved();
        exactlyTheOthersStay();
        leastLimit();
        emptyTable();
        elseUnchanged();
        Checks.end();
    }

    private static void everyEntryIsVisited() {
        Checks.sentence("purgeBelow(int limit) visits, in CANONICAL ORDER, every entry present when the call begins.");
        for (int entries = 1; entries <= 32; entries++) {
            Probe p = Probe.fresh(32);
            Checks.internMany(p.table, 16);
            for (int i = 0; i < entries; i++) {
                p.set(i % 2 == 0 ? SYM : INT, i / 2, -1 - i, true);
            }
            p.purgeBelow(0, entries);
            p.count(0);
            p.next(Probe.NONE, 0, Probe.NONE);
        }
    }

    private static void lessThanLimitSigned() {
        Checks.sentence("Each visited entry whose value is less than limit (signed comparison) is removed when"
                + " visited.");
        for (int limit : new int[] {MIN, MIN + 1, -2, -1, 0, 1, 2, MAX - 1, MAX}) {
            for (int value : new int[] {MIN, MIN + 1, -2, -1, 1, 2, MAX - 1, MAX}) {
                Probe p = Probe.fresh(4);
                p.intern("a", 0);
                p.set(INT, 1, value, true);
                p.set(SYM, 0, value, true);
                boolean removed = value < limit;
                p.purgeBelow(limit, removed ? 2 : 0);
                p.get(INT, 1, removed ? 0 : value);
                p.get(SYM, 0, removed ? 0 : value);
                p.count(removed ? 0 : 2);
            }
        }
    }

    private static void numberRemoved() {
        Checks.sentence("It answers the number removed.");
        int[] limits = {-20, -19, 5, 6, 10, 11, 70, 71, 90, 91};
        int[] removed = {0, 1, 1, 2, 2, 3, 3, 4, 4, 5};
        for (int i = 0; i < limits.length; i++) {
            Probe p = Probe.busy();
            p.purgeBelow(limits[i], removed[i]);
            p.count(5 - removed[i]);
            p.purgeBelow(limits[i], 0);
            p.count(5 - removed[i]);
        }
        Probe full = Probe.fresh(32);
        full.fill(-5, 64, 5, 32);
        full.purgeBelow(5, 0);
        full.purgeBelow(6, 32);
        full.purgeBelow(6, 0);
    }

    private static void exactlyTheOthersStay() {
        Checks.sentence("Afterwards the table holds exactly the former entries whose value is >= limit, with their"
                + " values unchanged.");
        Probe p = Probe.full();
        p.purgeBelow(7, 4);
        p.dueTable = "4 border 1: -7=71 1=10 9=90 2147483647=7";
        p.look();
        p.set(SYM, 15, 3, true);
        p.set(INT, 0, 2, true);
        p.purgeBelow(3, 1);
        p.dueTable = "5 border 1: -7=71 1=10 9=90 2147483647=7 s15=3";
        p.lastLook();
        Probe first = Probe.busy();
        first.purgeBelow(90, 4);
        first.dueTable = "1 border 0: 9=90";
        first.lastLook();
        Probe alternate = Probe.fresh(8);
        for (int key = 1; key <= 8; key++) {
            alternate.set(INT, key, key % 2 == 0 ? -key : key, true);
        }
        alternate.purgeBelow(0, 4);
        alternate.dueTable = "4 border 1: 1=1 3=3 5=5 7=7";
        alternate.lastLook();
    }

    private static void leastLimit() {
        Checks.sentence("With limit == Integer.MIN_VALUE, nothing is removed and it answers 0.");
        for (Probe p : Probe.each()) {
            p.purgeBelow(MIN, 0);
            p.lastLook();
        }
        Probe least = Probe.fresh(4);
        least.set(INT, 1, MIN, true);
        least.set(INT, 2, MAX, true);
        least.set(INT, MIN, -1, true);
        least.purgeBelow(MIN, 0);
        least.dueTable = "3 border 2: -2147483648=-1 1=-2147483648 2=2147483647";
        least.lastLook();
    }

    private static void emptyTable() {
        Checks.sentence("On an empty table it answers 0.");
        for (int limit : new int[] {MIN, -1, 0, 1, MAX}) {
            Probe fresh = Probe.fresh(4);
            fresh.purgeBelow(limit, 0);
            fresh.lastLook();
            Probe cleared = Probe.full();
            cleared.clear();
            cleared.purgeBelow(limit, 0);
            cleared.dueTable = "0 border 0:";
            cleared.lastLook();
        }
    }

    private static void elseUnchanged() {
        Checks.sentence("The symbols, PENDING, the record and cap are unchanged. (purgeBelow)");
        Probe some = Probe.busy();
        some.purgeBelow(71, 4);
        some.dueTable = "1 border 0: 9=90";
        some.lastLook();
        Probe all = Probe.full();
        all.purgeBelow(MAX, 8);
        all.dueTable = "0 border 0:";
        all.lastLook();
        Probe none = Probe.full();
        none.purgeBelow(-20, 0);
        none.lastLook();
    }
}
