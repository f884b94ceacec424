/** Promise 3: interning, its four steps in their order. */
public final class Promise03SymbolEndTest {
    public static void main(String[] args) {
        emptyPending();
        prefixesAreDistinct();
        longNames();
        fullList();
        elsewhereUnchanged();
        Checks.end();
    }

    private static void emptyPending() {
        HybridTables t = new HybridTables(4);
        Checks.due("symbolEnd() on a new table", t.symbolEnd(), -1);
        Checks.due("symbolCount()", t.symbolCount(), 0);
        Checks.due("intern a", Checks.intern(t, "a"), 0);
        Checks.due("symbolEnd() twice", t.symbolEnd(), -1);
        Checks.due("symbols", Checks.symbols(t), "symbols a");
        t.symbolChar('A');
        Checks.due("symbolEnd() after a refused char", t.symbolEnd(), -1);
        Checks.due("symbols", Checks.symbols(t), "symbols a");
    }

    private static void prefixesAreDistinct() {
        HybridTables t = new HybridTables(4);
        String[] names = {"abc", "ab", "a", "abcd", "b", "ba", "abd", "bbc"};
        for (int round = 0; round < 2; round++) {
            for (int id = 0; id < names.length; id++) {
                Checks.due("intern " + names[id], Checks.intern(t, names[id]), id);
                Checks.due("symbolLength(-1)", t.symbolLength(-1), 0);
            }
            Checks.due("symbols", Checks.symbols(t), "symbols abc ab a abcd b ba abd bbc");
        }
    }

    private static void longNames() {
        HybridTables t = new HybridTables(4);
        Checks.due("intern abcdefgh", Checks.intern(t, "abcdefgh"), 0);
        Checks.due("intern abcdefgi", Checks.intern(t, "abcdefgi"), 1);
        Checks.due("intern bbcdefgh", Checks.intern(t, "bbcdefgh"), 2);
        Checks.due("intern abcdefg", Checks.intern(t, "abcdefg"), 3);
        Checks.due("intern abcdefgh", Checks.intern(t, "abcdefgh"), 0);
        Checks.feed(t, "abcdefgi");
        Checks.due("a ninth char", t.symbolChar('z'), false);
        Checks.due("symbolEnd() after a ninth char", t.symbolEnd(), 1);
        Checks.due("symbols", Checks.symbols(t), "symbols abcdefgh abcdefgi bbcdefgh abcdefg");
    }

    private static void fullList() {
        HybridTables t = new HybridTables(4);
        Checks.internMany(t, 16);
        String before = Checks.symbols(t);
        Checks.due("symbolEnd() empty and full", t.symbolEnd(), -1);
        Checks.due("a new name when full", Checks.intern(t, "new"), -1);
        Checks.due("pending is emptied", t.symbolLength(-1), 0);
        Checks.due("symbolCharAt(-1, 0)", t.symbolCharAt(-1, 0), 0);
        Checks.due("symbolCount()", t.symbolCount(), 16);
        Checks.due("the last name when full", Checks.intern(t, "tttttttt"), 15);
        Checks.due("the first name when full", Checks.intern(t, "s"), 0);
        Checks.due("a new name when full, again", Checks.intern(t, "new"), -1);
        Checks.due("symbols", Checks.symbols(t), before);
    }

    private static void elsewhereUnchanged() {
        HybridTables t = Checks.busy();
        Checks.due("intern pq", t.symbolEnd(), 3);
        String beside = "; pending ; record -7 70; table of 5 border 2: -7=70 1=10 2=-20 9=90 s1=5";
        Checks.due("after pq", Checks.state(t), "symbols x abcdefgh yy pq" + beside);
        Checks.due("symbolEnd()", t.symbolEnd(), -1);
        Checks.due("intern yy", Checks.intern(t, "yy"), 2);
        Checks.due("after yy", Checks.state(t), "symbols x abcdefgh yy pq" + beside);
        Checks.internMany(t, 16);
        String full = Checks.state(t);
        Checks.due("intern new", Checks.intern(t, "new"), -1);
        Checks.due("after new", Checks.state(t), full);
        Checks.due("cap", Checks.capOf(t), 8);
    }
}
