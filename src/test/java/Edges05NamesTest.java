/** The boundary cases of promise 5, a test for each sentence that names one. */
public final class Edges05NamesTest {
    private static final int MIN = Probe.MIN;
    private static final int MAX = Probe.MAX;

    /** Outside any list; times 8 and more, some of them wrap to a place inside. */
    private static final int[] BAD_IDS = {
        -2, -3, -8, -16, -128, MIN, MIN + 1, 16, 17, 32, 128, 256, 1 << 28, 1 << 29, 1 << 30, MAX - 1, MAX,
    };

    public static void main(String[] args) {
        lengthOfPending();
        lengthOfASymbol();
        anyOtherId();
        pendingByMinusOne();
        idNotAccepted();
        negativePlace();
        placeAtOrPastTheEnd();
        emptyPending();
        firstToLastCharacter();
        changeNothing();
        Checks.end();
    }

    private static void lengthOfPending() {
        Checks.sentence("for id == -1: the length of PENDING, in 0..MAX_NAME");
        Probe p = Probe.fresh(4);
        p.symbolLength(-1, 0);
        for (int length = 1; length <= 8; length++) {
            p.symbolChar('k', true);
            p.symbolLength(-1, length);
        }
        p.symbolChar('k', false);
        p.symbolLength(-1, 8);
        p.symbolEnd(0);
        p.symbolLength(-1, 0);
    }

    private static void lengthOfASymbol() {
        Checks.sentence("for id in 0..symbolCount()-1: the length of that symbol's name, in 1..MAX_NAME");
        Probe p = Probe.fresh(4);
        Checks.internMany(p.table, 16);
        for (int id = 0; id < 16; id++) {
            p.symbolLength(id, id % 8 + 1);
        }
        Probe one = Probe.fresh(4);
        one.intern("abcdefgh", 0);
        one.symbolLength(0, 8);
    }

    private static void anyOtherId() {
        Checks.sentence("for any other id (including -2 and below, and symbolCount() and above): -1");
        Probe p = Probe.fresh(4);
        for (int symbols = 0; symbols <= 16; symbols++) {
            Checks.internMany(p.table, symbols);
            for (int id = symbols; id <= 17; id++) {
                p.symbolLength(id, -1);
            }
            for (int id : BAD_IDS) {
                p.symbolLength(id, -1);
            }
        }
        p.feed("pq");
        p.symbolLength(-2, -1);
        p.symbolLength(16, -1);
    }

    private static void pendingByMinusOne() {
        Checks.sentence("symbolCharAt(int id, int i) chooses the name by id exactly as symbolLength does, with -1"
                + " meaning PENDING.");
        Probe p = Probe.busy();
        p.symbolCharAt(-1, 0, 'p');
        p.symbolCharAt(-1, 1, 'q');
        p.symbolCharAt(0, 0, 'x');
        p.symbolCharAt(2, 1, 'y');
        p.symbolCharAt(3, 0, 0);
        p.symbolEnd(3);
        p.symbolCharAt(3, 0, 'p');
        p.symbolCharAt(3, 1, 'q');
        p.symbolCharAt(-1, 0, 0);
    }

    private static void idNotAccepted() {
        Checks.sentence("It answers (char) 0 if either: id is not accepted by symbolLength");
        Probe p = Probe.fresh(4);
        for (int symbols = 0; symbols <= 16; symbols++) {
            Checks.internMany(p.table, symbols);
            for (int i = -1; i <= 8; i++) {
                for (int id = symbols; id <= 17; id++) {
                    p.symbolCharAt(id, i, 0);
                }
                for (int id : BAD_IDS) {
                    p.symbolCharAt(id, i, 0);
                }
            }
        }
        p.symbolCharAt(-2, 16, 0);
        p.symbolCharAt(16, -8, 0);
    }

    private static void negativePlace() {
        Checks.sentence("This covers negative i");
        Probe p = Probe.full();
        for (int i : new int[] {-1, -2, -7, -8, -9, -120, MIN + 1, MIN}) {
            for (int id = -1; id < 16; id++) {
                p.symbolCharAt(id, i, 0);
            }
        }
        p.lastLook();
    }

    private static void placeAtOrPastTheEnd() {
        Checks.sentence("This covers i at or past the end");
        Probe p = Probe.full();
        for (int id = 0; id < 16; id++) {
            int length = id % 8 + 1;
            p.symbolCharAt(id, length - 1, id < 8 ? 's' : 't');
            for (int i : new int[] {length, length + 1, 8, 9, 16, 128, MAX - 1, MAX}) {
                p.symbolCharAt(id, i, 0);
            }
        }
        for (int i : new int[] {8, 9, 16, 128, MAX - 1, MAX}) {
            p.symbolCharAt(-1, i, 0);
        }
        p.lastLook();
    }

    private static void emptyPending() {
        Checks.sentence("This covers any i when PENDING is empty");
        Probe fresh = Probe.fresh(4);
        Probe interned = Probe.fresh(4);
        interned.intern("abcdefgh", 0);
        Probe known = Probe.fresh(4);
        known.intern("abcdefgh", 0);
        known.intern("abcdefgh", 0);
        Probe dropped = Probe.full();
        dropped.symbolEnd(-1);
        for (Probe p : new Probe[] {fresh, interned, known, dropped}) {
            for (int i : new int[] {MIN, -1, 0, 1, 7, 8, MAX}) {
                p.symbolCharAt(-1, i, 0);
            }
        }
        interned.feed("k");
        interned.symbolCharAt(-1, 0, 'k');
        interned.symbolCharAt(-1, 1, 0);
    }

    private static void firstToLastCharacter() {
        Checks.sentence("Otherwise it answers character i of that name, where 0 is the first character.");
        Probe p = Probe.fresh(4);
        String[] names = {"hgfedcba", "a", "zyxwvuts", "qr"};
        for (int id = 0; id < 4; id++) {
            p.intern(names[id], id);
        }
        p.feed("stuvwxyz");
        for (int id = 0; id < 4; id++) {
            for (int i = 0; i < names[id].length(); i++) {
                p.symbolCharAt(id, i, names[id].charAt(i));
            }
        }
        for (int i = 0; i < 8; i++) {
            p.symbolCharAt(-1, i, 's' + i);
        }
    }

    private static void changeNothing() {
        Checks.sentence("Both methods change nothing.");
        for (Probe p : Probe.each()) {
            for (int id = -3; id <= 17; id++) {
                p.table.symbolLength(id);
                for (int i = -1; i <= 8; i++) {
                    p.table.symbolCharAt(id, i);
                }
            }
            p.lastLook();
        }
    }
}
