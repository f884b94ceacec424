/** Promise 2: only 'a'..'z' is taken, and only while PENDING has room. */
public final class Promise02SymbolCharTest {
    public static void main(String[] args) {
        everyChar();
        everyCharWhenFull();
        order();
        elsewhereUnchanged();
        Checks.end();
    }

    private static void everyChar() {
        for (int c = 0; c <= Character.MAX_VALUE; c++) {
            HybridTables t = new HybridTables(4);
            boolean good = c >= 'a' && c <= 'z';
            Checks.due("symbolChar(" + c + ")", t.symbolChar((char) c), good);
            Checks.due("symbolLength(-1) after char " + c, t.symbolLength(-1), good ? 1 : 0);
            Checks.due("symbolCharAt(-1, 0) after char " + c, t.symbolCharAt(-1, 0), good ? c : 0);
        }
    }

    private static void everyCharWhenFull() {
        HybridTables t = new HybridTables(4);
        Checks.feed(t, "abcdefgh");
        for (int c = 0; c <= Character.MAX_VALUE; c++) {
            Checks.due("symbolChar(" + c + ") when full", t.symbolChar((char) c), false);
        }
        Checks.due("full", Checks.pending(t), "pending abcdefgh");
        Checks.due("symbolLength(-1) when full", t.symbolLength(-1), 8);
    }

    private static void order() {
        HybridTables t = new HybridTables(4);
        String sofar = "";
        for (char c : "zaymbnhq".toCharArray()) {
            Checks.due("symbolChar('A')", t.symbolChar('A'), false);
            Checks.due("symbolChar((char) 0)", t.symbolChar((char) 0), false);
            Checks.due("symbolChar('" + c + "')", t.symbolChar(c), true);
            sofar += c;
            Checks.due("pending", Checks.pending(t), "pending " + sofar);
        }
    }

    private static void elsewhereUnchanged() {
        HybridTables t = Checks.busy();
        Checks.due("symbolChar('9')", t.symbolChar('9'), false);
        Checks.due("after '9'", Checks.state(t), Checks.BUSY);
        Checks.feed(t, "rstuvw");
        Checks.due("symbolChar('x')", t.symbolChar('x'), false);
        Checks.due("after feeding", Checks.state(t), Checks.BUSY.replace("pending pq", "pending pqrstuvw"));
        Checks.due("cap", Checks.capOf(t), 8);
    }
}
