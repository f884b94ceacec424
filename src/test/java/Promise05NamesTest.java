/** Promise 5: reading names, PENDING's included, with every index that is outside. */
public final class Promise05NamesTest {
    private static final String[] NAMES = {
        "gfedcbaz", "z", "hgfedcba", "az", "abcdefg", "abcdefgh", "a", "zzzzzzzz",
        "qwe", "qwer", "qwert", "qwerty", "yy", "lmnop", "bcdefghi", "zyxwvuts",
    };
    private static final int[] BAD_IDS = {-2, -3, -16, Checks.MIN, Checks.MIN + 1, 16, 17, 1 << 29, 1 << 30, Checks.MAX};
    private static final int[] BAD_PLACES = {-1, -2, -8, Checks.MIN, 8, 9, 128, Checks.MAX};

    public static void main(String[] args) {
        emptyTable();
        manyNames();
        pendingName();
        changesNothing();
        Checks.end();
    }

    private static void emptyTable() {
        HybridTables t = new HybridTables(4);
        Checks.due("symbolLength(-1)", t.symbolLength(-1), 0);
        Checks.due("symbolLength(0)", t.symbolLength(0), -1);
        badIds(t);
        for (int i = -9; i <= 9; i++) {
            Checks.due("symbolCharAt(-1, " + i + ")", t.symbolCharAt(-1, i), 0);
            Checks.due("symbolCharAt(0, " + i + ")", t.symbolCharAt(0, i), 0);
        }
    }

    private static void manyNames() {
        HybridTables t = new HybridTables(4);
        for (int id = 0; id < 16; id++) {
            Checks.due("intern " + NAMES[id], Checks.intern(t, NAMES[id]), id);
            checkName(t, -1, "");
            Checks.due("symbolLength(" + (id + 1) + ")", t.symbolLength(id + 1), -1);
            Checks.due("symbolCharAt(" + (id + 1) + ", 0)", t.symbolCharAt(id + 1, 0), 0);
            for (int known = 0; known <= id; known++) {
                checkName(t, known, NAMES[known]);
            }
            badIds(t);
        }
    }

    private static void pendingName() {
        HybridTables t = new HybridTables(4);
        Checks.feed(t, "qwertyui");
        checkName(t, -1, "qwertyui");
        Checks.due("intern", t.symbolEnd(), 0);
        checkName(t, -1, "");
        Checks.feed(t, "as");
        checkName(t, -1, "as");
        checkName(t, 0, "qwertyui");
        badIds(t);
    }

    private static void checkName(HybridTables t, int id, String name) {
        Checks.due("symbolLength(" + id + ")", t.symbolLength(id), name.length());
        for (int i = -9; i <= 17; i++) {
            char want = i >= 0 && i < name.length() ? name.charAt(i) : 0;
            Checks.due("symbolCharAt(" + id + ", " + i + ")", t.symbolCharAt(id, i), want);
        }
        for (int i : BAD_PLACES) {
            Checks.due("symbolCharAt(" + id + ", " + i + ")", t.symbolCharAt(id, i), 0);
        }
    }

    private static void badIds(HybridTables t) {
        for (int id : BAD_IDS) {
            Checks.due("symbolLength(" + id + ")", t.symbolLength(id), -1);
            for (int i = -2; i <= 8; i++) {
                Checks.due("symbolCharAt(" + id + ", " + i + ")", t.symbolCharAt(id, i), 0);
            }
        }
    }

    private static void changesNothing() {
        HybridTables t = Checks.busy();
        for (int id = -3; id <= 17; id++) {
            t.symbolLength(id);
            t.symbolCharAt(id, 0);
            t.symbolCharAt(id, 8);
        }
        Checks.due("after reading", Checks.state(t), Checks.BUSY);
        Checks.due("cap", Checks.capOf(t), 8);
    }
}
