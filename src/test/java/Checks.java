/** What the tests share: comparing answers, building tables, and looking at a whole state. */
final class Checks {
    static final int INT = HybridTables.KEY_INT;
    static final int SYM = HybridTables.KEY_SYM;
    static final int NONE = HybridTables.KEY_NONE;
    static final int ERROR = HybridTables.KEY_ERROR;
    static final int MIN = Integer.MIN_VALUE;
    static final int MAX = Integer.MAX_VALUE;

    private static int wrong = 0;
    private static String sentence = "";

    private Checks() {
    }

    /** The document's sentence that the following checks stand for; a fault is told with it. */
    static void sentence(String text) {
        sentence = text;
    }

    static void due(String call, long got, long want) {
        if (got != want) {
            fault(call + " answered " + got + ", due is " + want);
        }
    }

    static void due(String call, boolean got, boolean want) {
        if (got != want) {
            fault(call + " answered " + got + ", due is " + want);
        }
    }

    static void due(String call, String got, String want) {
        if (!got.equals(want)) {
            fault(call + " answered " + got + ", due is " + want);
        }
    }

    static void fault(String text) {
        wrong++;
        System.out.println(sentence.isEmpty() ? text : "\"" + sentence + "\": " + text);
    }

    static boolean anyWrong() {
        return wrong != 0;
    }

    static void end() {
        if (wrong != 0) {
            System.out.println(wrong + " answers are not as due");
            System.exit(1);
        }
    }

    static void feed(HybridTables t, String name) {
        for (int i = 0; i < name.length(); i++) {
            due("symbolChar('" + name.charAt(i) + "') of " + name, t.symbolChar(name.charAt(i)), true);
        }
    }

    static int intern(HybridTables t, String name) {
        feed(t, name);
        return t.symbolEnd();
    }

    /** Interns s, ss, sss, ..., then the same with t, until there are n symbols. */
    static void internMany(HybridTables t, int n) {
        for (int id = t.symbolCount(); id < n; id++) {
            String letter = id < HybridTables.MAX_NAME ? "s" : "t";
            due("interning symbol " + id, intern(t, letter.repeat(id % HybridTables.MAX_NAME + 1)), id);
        }
    }

    static String name(HybridTables t, int id) {
        StringBuilder text = new StringBuilder();
        for (int i = 0; i < t.symbolLength(id); i++) {
            text.append(t.symbolCharAt(id, i));
        }
        return text.toString();
    }

    static String symbols(HybridTables t) {
        StringBuilder text = new StringBuilder("symbols");
        for (int id = 0; id < t.symbolCount(); id++) {
            text.append(' ').append(name(t, id));
        }
        return text.toString();
    }

    static String pending(HybridTables t) {
        return "pending " + name(t, -1);
    }

    static String record(HybridTables t) {
        return "record " + t.lastKey() + " " + t.lastValue();
    }

    /** The entries at the keys the tests use, read with get alone so that the record is kept. */
    static String table(HybridTables t) {
        StringBuilder text = new StringBuilder("table of " + t.count() + " border " + t.length() + ":");
        addEntries(text, t, MIN, MIN + 40);
        addEntries(text, t, -200, 200);
        addEntries(text, t, MAX - 40, MAX);
        for (int id = 0; id < t.symbolCount(); id++) {
            if (t.get(SYM, id) != 0) {
                text.append(" s").append(id).append('=').append(t.get(SYM, id));
            }
        }
        return text.toString();
    }

    private static void addEntries(StringBuilder text, HybridTables t, long first, long last) {
        for (long key = first; key <= last; key++) {
            int value = t.get(INT, (int) key);
            if (value != 0) {
                text.append(' ').append(key).append('=').append(value);
            }
        }
    }

    static String state(HybridTables t) {
        return besideTable(t) + "; " + table(t);
    }

    static String besideTable(HybridTables t) {
        return symbols(t) + "; " + pending(t) + "; " + record(t);
    }

    /** A table with something in every part of its state: cap 8, 5 entries, 3 symbols, "pq" pending, record (-7, 70). */
    static HybridTables busy() {
        HybridTables t = new HybridTables(8);
        intern(t, "x");
        intern(t, "abcdefgh");
        intern(t, "yy");
        feed(t, "pq");
        t.set(INT, -7, 70);
        t.next(NONE, 0);
        t.set(INT, 1, 10);
        t.set(INT, 2, -20);
        t.set(INT, 9, 90);
        t.set(SYM, 1, 5);
        due("the busy table", state(t), BUSY);
        return t;
    }

    static final String BUSY_BESIDE_TABLE = "symbols x abcdefgh yy; pending pq; record -7 70";
    static final String BUSY = BUSY_BESIDE_TABLE + "; table of 5 border 2: -7=70 1=10 2=-20 9=90 s1=5";

    /** Cap shows only in how many keys a cleared table takes. */
    static int capOf(HybridTables t) {
        t.clear();
        return t.fill(1, HybridTables.FILL_MAX, 1);
    }
}
