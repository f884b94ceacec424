/** The boundary cases of promise 3, a test for each sentence that names one. */
public final class Edges03SymbolEndTest {
    public static void main(String[] args) {
        emptyPending();
        emptyPendingWithoutRoom();
        knownName();
        knownNameLeavesTheList();
        sameLengthSameCharacters();
        knownNameComesBeforeFullList();
        fullList();
        newName();
        elseUnchanged();
        namesStayDistinct();
        Checks.end();
    }

    private static void emptyPending() {
        Checks.sentence("PENDING is empty. Answers -1 and nothing changes.");
        Probe fresh = Probe.fresh(4);
        fresh.symbolEnd(-1);
        fresh.symbolEnd(-1);
        fresh.lastLook();
        Probe p = Probe.busy();
        p.symbolEnd(3);
        p.dueSymbols = "x abcdefgh yy pq";
        p.duePending = "";
        p.symbolEnd(-1);
        p.look();
        p.symbolChar('P', false);
        p.symbolEnd(-1);
        p.lastLook();
    }

    private static void emptyPendingWithoutRoom() {
        Checks.sentence("PENDING is empty. Answers -1 and nothing changes. (with a full list)");
        Probe p = Probe.full();
        p.symbolEnd(-1);
        p.duePending = "";
        p.symbolEnd(-1);
        p.lastLook();
    }

    private static void knownName() {
        Checks.sentence("PENDING becomes empty and it answers that id.");
        Probe p = Probe.busy();
        p.symbolEnd(3);
        p.dueSymbols = "x abcdefgh yy pq";
        p.duePending = "";
        String[] names = {"x", "abcdefgh", "yy", "pq"};
        for (int id = 0; id < 4; id++) {
            p.intern(names[id], id);
            p.symbolLength(-1, 0);
            p.symbolCharAt(-1, 0, 0);
            p.look();
        }
        p.feed("x");
        p.duePending = "x";
        p.lastLook();
    }

    private static void knownNameLeavesTheList() {
        Checks.sentence("PENDING equals the name of some symbol id: the symbol list is unchanged.");
        Probe p = Probe.fresh(4);
        p.intern("a", 0);
        p.intern("a", 0);
        p.symbolCount(1);
        p.dueSymbols = "a";
        p.look();
        p.intern("b", 1);
        p.intern("b", 1);
        p.intern("a", 0);
        p.dueSymbols = "a b";
        p.lastLook();
    }

    private static void sameLengthSameCharacters() {
        Checks.sentence("PENDING equals the name of some symbol id (same length, same characters).");
        Probe p = Probe.fresh(4);
        String[] names = {"abcdefgh", "abcdefg", "a", "ab", "b", "ba", "bbcdefgh", "abcdefgi", "abcxefgh", "h", "aa"};
        for (int id = 0; id < names.length; id++) {
            p.intern(names[id], id);
        }
        for (int id = names.length - 1; id >= 0; id--) {
            p.intern(names[id], id);
        }
        p.dueSymbols = "abcdefgh abcdefg a ab b ba bbcdefgh abcdefgi abcxefgh h aa";
        p.lastLook();
    }

    private static void knownNameComesBeforeFullList() {
        Checks.sentence("Conditions are examined in this order: (a known name is answered with a full list too)");
        Probe p = Probe.full();
        p.symbolEnd(-1);
        p.duePending = "";
        for (int id = 0; id < 16; id++) {
            p.intern((id < 8 ? "s" : "t").repeat(id % 8 + 1), id);
        }
        p.lastLook();
    }

    private static void fullList() {
        Checks.sentence("symbolCount() == MAX_SYMBOLS. PENDING becomes empty and it answers -1. The symbol list is"
                + " unchanged.");
        Probe p = Probe.full();
        p.symbolEnd(-1);
        p.duePending = "";
        p.look();
        p.intern("a", -1);
        p.intern("ttttttts", -1);
        p.look();
        p.feed("q");
        p.duePending = "q";
        p.lastLook();
    }

    private static void newName() {
        Checks.sentence("PENDING's name is added as a new symbol with id equal to the former symbolCount(), so the"
                + " count grows by one.");
        Probe p = Probe.fresh(4);
        for (int id = 0; id < 16; id++) {
            p.symbolCount(id);
            String name = "" + (char) ('p' - id) + "xyzwvuk".substring(0, id % 8);
            p.intern(name, id);
            p.symbolCount(id + 1);
            p.dueSymbols += id == 0 ? name : " " + name;
            p.look();
        }
        p.lastLook();
    }

    private static void elseUnchanged() {
        Checks.sentence("In every case the table, the record and cap are unchanged.");
        Probe p = Probe.busy();
        p.symbolEnd(3);
        p.dueSymbols = "x abcdefgh yy pq";
        p.duePending = "";
        p.look();
        p.intern("yy", 2);
        p.look();
        p.symbolEnd(-1);
        p.look();
        p.lastLook();
        Probe full = Probe.full();
        full.symbolEnd(-1);
        full.duePending = "";
        full.lastLook();
    }

    private static void namesStayDistinct() {
        Checks.sentence("Because of step 2, the names in the symbol list stay distinct.");
        Probe p = Probe.fresh(4);
        for (int round = 0; round < 3; round++) {
            for (int id = 0; id < 16; id++) {
                p.intern("ab".repeat(id / 4 + 1).substring(id / 4) + "wxyz".charAt(id % 4), id);
            }
        }
        p.symbolCount(16);
    }
}
