import java.util.ArrayList;
import java.util.List;
import java.util.Map;
import java.util.TreeMap;

/**
 * Long runs of mixed calls, each answer compared with a model that is written straight from the document over a
 * sorted map. The calls come from a fixed sequence of numbers, so every run is the same.
 */
public final class ModelTest {
    private static final int RUNS = 400;
    private static final int CALLS = 1500;
    private static final int[] ODD_INTS = {Checks.MIN, Checks.MIN + 1, Checks.MAX, Checks.MAX - 1, -1, 0, 1, 2, 3, 16, 64, 65};

    private static long seed = 20261115L;

    private final HybridTables real;
    private final int cap;
    private final TreeMap<Long, Integer> table = new TreeMap<>();
    private final List<String> symbols = new ArrayList<>();
    private String pending = "";
    private int lastKey = 0;
    private int lastValue = 0;

    private ModelTest(int maxKeys) {
        real = new HybridTables(maxKeys);
        cap = Math.max(4, Math.min(32, maxKeys));
    }

    public static void main(String[] args) {
        for (int run = 0; run < RUNS && !Checks.anyWrong(); run++) {
            ModelTest model = new ModelTest(run % 10 == 0 ? someInt() : some(40));
            for (int call = 0; call < CALLS && !Checks.anyWrong(); call++) {
                model.oneCall();
                model.compareState();
            }
        }
        Checks.end();
    }

    private static int some(int bound) {
        seed = seed * 6364136223846793005L + 1442695040888963407L;
        return (int) ((seed >>> 33) % bound);
    }

    private static int someInt() {
        return some(3) == 0 ? ODD_INTS[some(ODD_INTS.length)] : some(50) - 10;
    }

    private static int someValue() {
        int sort = some(8);
        if (sort == 0) {
            return 0;
        }
        return sort == 1 ? someInt() : some(200) - 100;
    }

    private static int someKind() {
        int sort = some(20);
        if (sort == 0) {
            return someInt();
        }
        return sort < 12 ? Checks.INT : Checks.SYM;
    }

    private int someKey(int kind) {
        if (kind == Checks.SYM && some(8) != 0) {
            return some(symbols.size() + 1);
        }
        return some(10) == 0 ? lastKey : someInt();
    }

    private void oneCall() {
        int sort = some(100);
        if (sort < 10) {
            char c = some(6) == 0 ? (char) some(65536) : (char) ('a' + some(3));
            Checks.due("symbolChar(" + (int) c + ")", real.symbolChar(c), symbolChar(c));
        } else if (sort < 16) {
            Checks.due("symbolEnd()", real.symbolEnd(), symbolEnd());
        } else if (sort < 50) {
            int kind = someKind();
            int key = someKey(kind);
            int value = someValue();
            Checks.due("set(" + kind + ", " + key + ", " + value + ")", real.set(kind, key, value), set(kind, key, value));
        } else if (sort < 60) {
            int kind = someKind();
            int key = someKey(kind);
            Checks.due("get(" + kind + ", " + key + ")", real.get(kind, key), valid(kind, key) ? at(kind, key) : 0);
        } else if (sort < 80) {
            int kind = some(6) == 0 ? Checks.NONE : someKind();
            int key = someKey(kind);
            Checks.due("next(" + kind + ", " + key + ")", real.next(kind, key), next(kind, key));
        } else {
            oneOfTheWideCalls(sort);
        }
    }

    private void oneOfTheWideCalls(int sort) {
        if (sort < 86) {
            int first = someInt();
            int n = some(4) == 0 ? someInt() : some(6);
            int value = someValue();
            Checks.due("fill(" + first + ", " + n + ", " + value + ")", real.fill(first, n, value), fill(first, n, value));
        } else if (sort < 94) {
            int value = someValue();
            Checks.due("append(" + value + ")", real.append(value), append(value));
        } else if (sort < 98) {
            int limit = some(3) == 0 ? someInt() : some(100) - 120;
            Checks.due("purgeBelow(" + limit + ")", real.purgeBelow(limit), purgeBelow(limit));
        } else if (sort == 98) {
            real.clear();
            table.clear();
        } else {
            int id = someInt();
            int i = some(2) == 0 ? someInt() : some(9);
            Checks.due("symbolLength(" + id + ")", real.symbolLength(id), nameOf(id) == null ? -1 : nameOf(id).length());
            Checks.due("symbolCharAt(" + id + ", " + i + ")", real.symbolCharAt(id, i), charAt(id, i));
        }
    }

    private void compareState() {
        Checks.due("symbolCount()", real.symbolCount(), symbols.size());
        Checks.due("count()", real.count(), table.size());
        Checks.due("length()", real.length(), length());
        Checks.due("lastKey()", real.lastKey(), lastKey);
        Checks.due("lastValue()", real.lastValue(), lastValue);
        for (int id = -1; id < symbols.size(); id++) {
            Checks.due("name " + id, Checks.name(real, id), nameOf(id));
        }
        for (Map.Entry<Long, Integer> entry : table.entrySet()) {
            int kind = kindOf(entry.getKey());
            Checks.due("get(" + kind + ", " + entry.getKey().intValue() + ")",
                    real.get(kind, numberOf(entry.getKey())), entry.getValue());
        }
    }

    /** One long per key whose order is the canonical order. */
    private static long code(int kind, int key) {
        return ((long) kind << 32) + key + (1L << 31);
    }

    private static int kindOf(long code) {
        return (int) (code >> 32);
    }

    private static int numberOf(long code) {
        return (int) ((code & 0xFFFFFFFFL) - (1L << 31));
    }

    private boolean valid(int kind, int key) {
        return kind == Checks.INT || kind == Checks.SYM && key >= 0 && key < symbols.size();
    }

    private int at(int kind, int key) {
        return table.getOrDefault(code(kind, key), 0);
    }

    private String nameOf(int id) {
        if (id == -1) {
            return pending;
        }
        return id >= 0 && id < symbols.size() ? symbols.get(id) : null;
    }

    private char charAt(int id, int i) {
        String name = nameOf(id);
        return name != null && i >= 0 && i < name.length() ? name.charAt(i) : 0;
    }

    private boolean symbolChar(char c) {
        if (c < 'a' || c > 'z' || pending.length() == 8) {
            return false;
        }
        pending += c;
        return true;
    }

    private int symbolEnd() {
        if (pending.isEmpty()) {
            return -1;
        }
        if (!symbols.contains(pending) && symbols.size() < 16) {
            symbols.add(pending);
        }
        int id = symbols.indexOf(pending);
        pending = "";
        return id;
    }

    private boolean set(int kind, int key, int value) {
        if (!valid(kind, key)) {
            return false;
        }
        long code = code(kind, key);
        if (value == 0) {
            table.remove(code);
            return true;
        }
        if (!table.containsKey(code) && table.size() == cap) {
            return false;
        }
        table.put(code, value);
        return true;
    }

    private int length() {
        int n = 0;
        while (at(Checks.INT, n + 1) != 0) {
            n++;
        }
        return n;
    }

    private int next(int kind, int key) {
        if (kind != Checks.NONE && !valid(kind, key)) {
            return Checks.ERROR;
        }
        Long found = kind == Checks.NONE ? table.ceilingKey(0L) : table.higherKey(code(kind, key));
        if (found == null) {
            lastKey = 0;
            lastValue = 0;
            return Checks.NONE;
        }
        lastKey = numberOf(found);
        lastValue = table.get(found);
        return kindOf(found);
    }

    private int fill(int first, int n, int value) {
        if (n < 0 || n > 64) {
            return -1;
        }
        for (int i = 0; i < n; i++) {
            if (!set(Checks.INT, first + i, value)) {
                return i;
            }
        }
        return n;
    }

    private int append(int value) {
        int key = length() + 1;
        return value != 0 && set(Checks.INT, key, value) ? key : -1;
    }

    private int purgeBelow(int limit) {
        int before = table.size();
        table.values().removeIf(value -> value < limit);
        return before - table.size();
    }
}
