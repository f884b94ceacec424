/** The boundary cases of promise 2, a test for each sentence that names one. */
public final class Edges02SymbolCharTest {
    public static void main(String[] args) {
        notALowercaseLetter();
        pendingIsFull();
        appendedAtTheEnd();
        falseChangesNothing();
        elseUnchanged();
        Checks.end();
    }

    private static void notALowercaseLetter() {
        Checks.sentence("If c is not in 'a'..'z' (uppercase letters, digits, (char) 0 and any other char included), it"
                + " answers false.");
        Probe p = Probe.busy();
        for (int c = 0; c <= Character.MAX_VALUE; c++) {
            if (c < 'a' || c > 'z') {
                p.symbolChar(c, false);
            }
        }
        p.symbolChar('a' - 1, false);
        p.symbolChar('z' + 1, false);
        p.lastLook();
    }

    private static void pendingIsFull() {
        Checks.sentence("If PENDING already has MAX_NAME (8) characters, it answers false.");
        Probe p = Probe.full();
        for (char c = 'a'; c <= 'z'; c++) {
            p.symbolChar(c, false);
        }
        p.symbolLength(-1, 8);
        p.lastLook();
        Probe again = Probe.fresh(4);
        again.intern("abcdefgh", 0);
        again.feed("stuvwxyz");
        again.symbolChar('a', false);
        again.symbolEnd(1);
    }

    private static void appendedAtTheEnd() {
        Checks.sentence("Otherwise c is appended at the end of PENDING and it answers true.");
        for (char c = 'a'; c <= 'z'; c++) {
            Probe p = Probe.fresh(4);
            p.symbolChar(c, true);
            p.symbolLength(-1, 1);
            p.symbolCharAt(-1, 0, c);
            p.feed("zabmnyq");
            p.duePending = c + "zabmnyq";
            p.lastLook();
        }
    }

    private static void falseChangesNothing() {
        Checks.sentence("When it answers false, nothing changes.");
        for (Probe p : Probe.each()) {
            for (int c : new int[] {0, '0', '9', 'A', 'Z', '`', '{', ' ', 'a' + 128, 'a' + 256, 'z' + 256, 65535}) {
                p.symbolChar(c, false);
                p.look();
            }
            p.lastLook();
        }
        Probe full = Probe.full();
        full.symbolChar('a', false);
        full.symbolChar('A', false);
        full.lastLook();
    }

    private static void elseUnchanged() {
        Checks.sentence("In every case the table, the symbols, the record and cap are unchanged.");
        Probe p = Probe.busy();
        for (char c = 'a'; c <= 'f'; c++) {
            p.symbolChar(c, true);
            p.duePending += c;
            p.look();
        }
        p.symbolChar('g', false);
        p.symbolChar('G', false);
        p.lastLook();
    }
}
