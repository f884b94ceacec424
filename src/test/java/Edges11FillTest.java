/** The boundary cases of promise 11, a test for each sentence that names one. */
public final class Edges11FillTest {
    private static final int MIN = Probe.MIN;
    private static final int MAX = Probe.MAX;
    private static final int INT = Probe.INT;
    private static final int SYM = Probe.SYM;

    public static void main(String[] args) {
        negativeCount();
        countAboveMax();
        greatestCount();
        exactlySet();
        wraps();
        stopsAtTheFirstRefused();
        setsBeforeStayDone();
        noneRefused();
        noSteps();
        nilRemoves();
        refusedOnlyWhenAbsentAndFull();
        elseUnchanged();
        Checks.end();
    }

    private static void negativeCount() {
        Checks.sentence("If n < 0, it answers -1 and nothing changes.");
        for (Probe p : Probe.each()) {
            for (int n : new int[] {-1, -2, -64, -65, MIN + 1, MIN}) {
                p.fill(1, n, 5, -1);
                p.fill(1, n, 0, -1);
            }
            p.lastLook();
        }
    }

    private static void countAboveMax() {
        Checks.sentence("If n > FILL_MAX, it answers -1 and nothing changes.");
        for (Probe p : Probe.each()) {
            for (int n : new int[] {65, 66, 128, 256, 65536, 65537, MAX - 1, MAX}) {
                p.fill(1, n, 5, -1);
                p.fill(1, n, 0, -1);
            }
            p.lastLook();
        }
    }

    private static void greatestCount() {
        Checks.sentence("If n < 0 or n > FILL_MAX, it answers -1 (and n == FILL_MAX is taken).");
        Probe p = Probe.fresh(32);
        p.fill(1, 64, 5, 32);
        p.set(INT, 32, 0, true);
        p.set(INT, 64, 6, true);
        p.fill(1, 64, 0, 64);
        p.lastLook();
        Probe one = Probe.fresh(4);
        one.fill(0, 1, 5, 1);
        one.dueTable = "1 border 0: 0=5";
        one.lastLook();
    }

    private static void exactlySet() {
        Checks.sentence("it works through i = 0, 1, ..., n-1 in this order. For each i it performs exactly"
                + " set(KEY_INT, first+i, value)");
        Probe p = Probe.busy();
        p.fill(-1, 3, 5, 3);
        p.dueTable = "7 border 2: -7=70 -1=5 0=5 1=5 2=-20 9=90 s1=5";
        p.look();
        p.fill(-3, 3, MIN, 1);
        p.dueTable = "8 border 2: -7=70 -3=-2147483648 -1=5 0=5 1=5 2=-20 9=90 s1=5";
        p.lastLook();
    }

    private static void wraps() {
        Checks.sentence("first+i wraps as Java int arithmetic (for example, past Integer.MAX_VALUE to"
                + " Integer.MIN_VALUE)");
        Probe p = Probe.fresh(8);
        p.fill(MAX - 1, 4, 5, 4);
        p.dueTable = "4 border 0: -2147483648=5 -2147483647=5 2147483646=5 2147483647=5";
        p.look();
        p.fill(MAX, 2, 6, 2);
        p.dueTable = "4 border 0: -2147483648=6 -2147483647=5 2147483646=5 2147483647=6";
        p.look();
        p.fill(MAX, 64, 0, 64);
        p.dueTable = "1 border 0: 2147483646=5";
        p.look();
        p.fill(MAX, 1, 7, 1);
        p.fill(MIN, 1, 8, 1);
        p.dueTable = "3 border 0: -2147483648=8 2147483646=5 2147483647=7";
        p.look();
        p.fill(MAX - 2, 64, 9, 8);
        p.dueTable = "8 border 0: -2147483648=9 -2147483647=9 -2147483646=9 -2147483645=9 -2147483644=9"
                + " 2147483645=9 2147483646=9 2147483647=9";
        p.lastLook();
    }

    private static void stopsAtTheFirstRefused() {
        Checks.sentence("At the first such set that answers false, it stops and answers i.");
        for (int cap = 4; cap <= 32; cap++) {
            for (int before = 0; before <= 3; before++) {
                Probe p = Probe.fresh(cap);
                p.fill(-100, before, 1, before);
                p.fill(1, 64, 5, cap - before);
                p.count(cap);
                p.length(cap - before);
            }
        }
        Probe full = Probe.full();
        full.fill(3, 1, 5, 0);
        full.fill(3, 64, 5, 0);
        full.lastLook();
        Probe stops = Probe.full();
        stops.fill(2, 8, 5, 1);
        stops.dueTable = "8 border 2: -7=71 1=10 2=5 9=90 2147483647=7 s0=6 s1=5 s15=-3";
        stops.lastLook();
    }

    private static void setsBeforeStayDone() {
        Checks.sentence("The sets performed before it stay done.");
        Probe p = Probe.busy();
        p.fill(1, 10, 33, 5);
        p.dueTable = "8 border 5: -7=70 1=33 2=33 3=33 4=33 5=33 9=90 s1=5";
        p.lastLook();
    }

    private static void noneRefused() {
        Checks.sentence("If none is refused, it answers n.");
        for (int n = 1; n <= 32; n++) {
            Probe p = Probe.fresh(32);
            p.fill(1, n, -5, n);
            p.count(n);
            p.length(n);
            p.fill(1, n, 5, n);
            p.count(n);
            p.get(INT, n, 5);
            p.get(INT, n + 1, 0);
        }
    }

    private static void noSteps() {
        Checks.sentence("n == 0 answers 0 and changes nothing.");
        for (Probe p : Probe.each()) {
            for (int first : new int[] {MIN, -7, 0, 1, 3, MAX}) {
                p.fill(first, 0, 5, 0);
                p.fill(first, 0, 0, 0);
            }
            p.lastLook();
        }
    }

    private static void nilRemoves() {
        Checks.sentence("With value == 0, each step removes the key if present, none is refused, and it answers n.");
        Probe full = Probe.full();
        full.fill(1, 64, 0, 64);
        full.dueTable = "5 border 0: -7=71 2147483647=7 s0=6 s1=5 s15=-3";
        full.look();
        full.fill(1, 64, 0, 64);
        full.look();
        full.fill(-7, 1, 0, 1);
        full.dueTable = "4 border 0: 2147483647=7 s0=6 s1=5 s15=-3";
        full.lastLook();
        Probe absent = Probe.full();
        absent.fill(3, 6, 0, 6);
        absent.lastLook();
        Probe empty = Probe.fresh(4);
        empty.fill(1, 64, 0, 64);
        empty.lastLook();
    }

    private static void refusedOnlyWhenAbsentAndFull() {
        Checks.sentence("With a nonzero value, a step is refused only when its key is absent and the table is full.");
        Probe p = Probe.full();
        p.fill(1, 2, 5, 2);
        p.dueTable = "8 border 2: -7=71 1=5 2=5 9=90 2147483647=7 s0=6 s1=5 s15=-3";
        p.look();
        p.fill(1, 3, 6, 2);
        p.dueTable = "8 border 2: -7=71 1=6 2=6 9=90 2147483647=7 s0=6 s1=5 s15=-3";
        p.lastLook();
        Probe wide = Probe.fresh(32);
        wide.fill(1, 32, 1, 32);
        wide.fill(1, 32, 2, 32);
        wide.fill(1, 33, 3, 32);
        wide.get(INT, 1, 3);
        wide.get(INT, 32, 3);
        wide.fill(0, 33, 4, 0);
        wide.get(INT, 1, 3);
        Probe onTheWay = Probe.busy();
        onTheWay.fill(7, 4, 6, 4);
        onTheWay.dueTable = "8 border 2: -7=70 1=10 2=-20 7=6 8=6 9=6 10=6 s1=5";
        onTheWay.look();
        onTheWay.fill(8, 4, 5, 3);
        onTheWay.dueTable = "8 border 2: -7=70 1=10 2=-20 7=6 8=5 9=5 10=5 s1=5";
        onTheWay.lastLook();
    }

    private static void elseUnchanged() {
        Checks.sentence("The symbols, PENDING, the record and cap are unchanged. (fill)");
        Probe p = Probe.busy();
        p.fill(0, 3, 5, 3);
        p.dueTable = "6 border 2: -7=70 0=5 1=5 2=5 9=90 s1=5";
        p.look();
        p.fill(0, 3, 0, 3);
        p.dueTable = "3 border 0: -7=70 9=90 s1=5";
        p.look();
        p.fill(20, 64, 4, 5);
        p.dueTable = "8 border 0: -7=70 9=90 20=4 21=4 22=4 23=4 24=4 s1=5";
        p.lastLook();
        Probe removesTheRecorded = Probe.busy();
        removesTheRecorded.fill(-7, 1, 0, 1);
        removesTheRecorded.dueTable = "4 border 2: 1=10 2=-20 9=90 s1=5";
        removesTheRecorded.look();
        removesTheRecorded.get(SYM, 1, 5);
        removesTheRecorded.lastLook();
    }
}
