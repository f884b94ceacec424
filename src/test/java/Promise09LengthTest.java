/** Promise 9: the border is the least one, whatever stands beyond it. */
public final class Promise09LengthTest {
    public static void main(String[] args) {
        everySubset();
        toCap();
        othersHaveNoEffect();
        Checks.end();
    }

    /** Every set of keys out of -1..9, put in upwards and downwards. */
    private static void everySubset() {
        for (int bits = 0; bits < 1 << 11; bits++) {
            HybridTables up = new HybridTables(11);
            HybridTables down = new HybridTables(11);
            for (int i = 0; i < 11; i++) {
                putIfChosen(up, bits, i);
                putIfChosen(down, bits, 10 - i);
            }
            int want = 0;
            while (want < 9 && (bits >> (want + 2) & 1) == 1) {
                want++;
            }
            Checks.due("length() of subset " + bits + " upwards", up.length(), want);
            Checks.due("length() of subset " + bits + " downwards", down.length(), want);
        }
    }

    private static void putIfChosen(HybridTables t, int bits, int i) {
        if ((bits >> i & 1) == 1) {
            t.set(Checks.INT, i - 1, 1);
        }
    }

    private static void toCap() {
        HybridTables t = new HybridTables(32);
        for (int key = 32; key >= 2; key--) {
            t.set(Checks.INT, key, -key);
            Checks.due("length() without 1", t.length(), 0);
        }
        t.set(Checks.INT, 1, -1);
        Checks.due("length() of a full table", t.length(), 32);
        for (int key = 1; key <= 32; key++) {
            t.set(Checks.INT, key, 0);
            Checks.due("length() without " + key, t.length(), key - 1);
            t.set(Checks.INT, key, 5);
            Checks.due("length() with " + key + " again", t.length(), 32);
        }
    }

    private static void othersHaveNoEffect() {
        HybridTables t = new HybridTables(32);
        Checks.internMany(t, 16);
        for (int id = 0; id < 16; id++) {
            t.set(Checks.SYM, id, 1);
            Checks.due("length() of symbols", t.length(), 0);
        }
        for (int key : new int[] {0, -1, Checks.MIN, Checks.MIN + 1, Checks.MAX, 3, 4}) {
            t.set(Checks.INT, key, 1);
            Checks.due("length() with " + key, t.length(), 0);
        }
        t.set(Checks.INT, 1, 1);
        Checks.due("length() with 1", t.length(), 1);
        t.set(Checks.INT, 2, 1);
        Checks.due("length() with 2", t.length(), 4);
        HybridTables busy = Checks.busy();
        Checks.due("length()", busy.length(), 2);
        Checks.due("length() changes nothing", Checks.state(busy), Checks.BUSY);
    }
}
