/** One script-language table with integer and symbol keys; see README.md. */
public final class HybridTables {
    public static final int KEY_ERROR = -1;
    public static final int KEY_INT = 0;
    public static final int KEY_SYM = 1;
    public static final int KEY_NONE = 2;
    public static final int MIN_CAP = 4;
    public static final int MAX_CAP = 32;
    public static final int MAX_SYMBOLS = 16;
    public static final int MAX_NAME = 8;
    public static final int FILL_MAX = 64;

    private static final int PENDING_ID = -1;
    private static final int NO_SYMBOL = -1;
    private static final int REFUSED = -1;
    private static final int NAME_CELLS = MAX_SYMBOLS * MAX_NAME;

    private final int cap;

    // The entries stand in canonical order at 0..used-1, so that iteration
    // from any key, present or not, is a search for a place in the row.
    private final int[] kinds = new int[MAX_CAP];
    private final int[] numbers = new int[MAX_CAP];
    private final int[] values = new int[MAX_CAP];
    private int used = 0;

    // Every name has MAX_NAME cells of its own, because arrays of arrays are
    // not allowed here: the name of symbol id begins at id * MAX_NAME.
    private final char[] names = new char[NAME_CELLS];
    private final int[] nameLengths = new int[MAX_SYMBOLS];
    private int symbols = 0;

    private final char[] pending = new char[MAX_NAME];
    private int pendingLength = 0;

    private int recordKey = 0;
    private int recordValue = 0;

    public HybridTables(int maxKeys) {
        if (maxKeys < MIN_CAP) {
            cap = MIN_CAP;
        } else if (maxKeys > MAX_CAP) {
            cap = MAX_CAP;
        } else {
            cap = maxKeys;
        }
    }

    public boolean symbolChar(char c) {
        if (c < 'a' || c > 'z') {
            return false;
        }
        if (pendingLength >= MAX_NAME) {
            return false;
        }
        pending[pendingLength] = c;
        pendingLength++;
        return true;
    }

    public int symbolEnd() {
        if (pendingLength == 0) {
            return NO_SYMBOL;
        }
        int id = findPending();
        if (id == NO_SYMBOL && symbols < MAX_SYMBOLS) {
            id = addPending();
        }
        // A new name that finds the list full is dropped too, so that the
        // next name starts afresh.
        pendingLength = 0;
        return id;
    }

    public int symbolCount() {
        return symbols;
    }

    public int symbolLength(int id) {
        if (id == PENDING_ID) {
            return pendingLength;
        }
        if (!isSymbol(id)) {
            return REFUSED;
        }
        return nameLengths[id];
    }

    public char symbolCharAt(int id, int i) {
        // A refused id has length -1, which leaves no i that is inside.
        int length = symbolLength(id);
        if (i < 0 || i >= length) {
            return (char) 0;
        }
        if (id == PENDING_ID) {
            return pending[i];
        }
        return names[id * MAX_NAME + i];
    }

    public boolean set(int kind, int key, int value) {
        if (!isValid(kind, key)) {
            return false;
        }
        int place = placeOf(kind, key);
        boolean present = isAt(place, kind, key);
        if (value == 0) {
            if (present) {
                removeAt(place);
            }
            return true;
        }
        if (present) {
            values[place] = value;
            return true;
        }
        if (used >= cap) {
            return false;
        }
        insertAt(place, kind, key, value);
        return true;
    }

    public int get(int kind, int key) {
        if (!isValid(kind, key)) {
            return 0;
        }
        int place = placeOf(kind, key);
        if (!isAt(place, kind, key)) {
            return 0;
        }
        return values[place];
    }

    public int count() {
        return used;
    }

    public int length() {
        int border = 0;
        // One pass is enough because the integer keys ascend: the key that
        // would lengthen the border always stands further on.
        for (int place = 0; place < used; place++) {
            if (kinds[place] == KEY_INT && numbers[place] == border + 1) {
                border++;
            }
        }
        return border;
    }

    public int next(int kind, int key) {
        if (kind == KEY_NONE) {
            return recordAt(0);
        }
        if (!isValid(kind, key)) {
            return KEY_ERROR;
        }
        int place = placeOf(kind, key);
        if (isAt(place, kind, key)) {
            place++;
        }
        return recordAt(place);
    }

    public int lastKey() {
        return recordKey;
    }

    public int lastValue() {
        return recordValue;
    }

    public int fill(int first, int n, int value) {
        if (n < 0 || n > FILL_MAX) {
            return REFUSED;
        }
        for (int i = 0; i < n; i++) {
            if (!set(KEY_INT, first + i, value)) {
                return i;
            }
        }
        return n;
    }

    public int append(int value) {
        if (value == 0) {
            return REFUSED;
        }
        int key = length() + 1;
        if (!set(KEY_INT, key, value)) {
            return REFUSED;
        }
        return key;
    }

    public int purgeBelow(int limit) {
        int kept = 0;
        int before = used;
        // The kept entries move up to the front in their order, so the row
        // stays canonical and no entry is passed over by a removal.
        for (int place = 0; place < before; place++) {
            if (values[place] >= limit) {
                moveEntry(place, kept);
                kept++;
            }
        }
        used = kept;
        return before - kept;
    }

    public void clear() {
        used = 0;
    }

    private boolean isSymbol(int id) {
        return id >= 0 && id < symbols;
    }

    private boolean isValid(int kind, int key) {
        if (kind == KEY_SYM) {
            return isSymbol(key);
        }
        return kind == KEY_INT;
    }

    private int findPending() {
        for (int id = 0; id < symbols; id++) {
            if (isPendingName(id)) {
                return id;
            }
        }
        return NO_SYMBOL;
    }

    private boolean isPendingName(int id) {
        if (nameLengths[id] != pendingLength) {
            return false;
        }
        for (int i = 0; i < pendingLength; i++) {
            if (names[id * MAX_NAME + i] != pending[i]) {
                return false;
            }
        }
        return true;
    }

    private int addPending() {
        int id = symbols;
        for (int i = 0; i < pendingLength; i++) {
            names[id * MAX_NAME + i] = pending[i];
        }
        nameLengths[id] = pendingLength;
        symbols++;
        return id;
    }

    // The place where the key stands, or where it would have to be put in.
    private int placeOf(int kind, int key) {
        int place = 0;
        while (place < used && isBefore(place, kind, key)) {
            place++;
        }
        return place;
    }

    private boolean isBefore(int place, int kind, int key) {
        // KEY_INT < KEY_SYM, so the kinds compare as canonical order asks.
        if (kinds[place] != kind) {
            return kinds[place] < kind;
        }
        return numbers[place] < key;
    }

    private boolean isAt(int place, int kind, int key) {
        return place < used && kinds[place] == kind && numbers[place] == key;
    }

    private void insertAt(int place, int kind, int key, int value) {
        for (int to = used; to > place; to--) {
            moveEntry(to - 1, to);
        }
        kinds[place] = kind;
        numbers[place] = key;
        values[place] = value;
        used++;
    }

    private void removeAt(int place) {
        for (int to = place; to < used - 1; to++) {
            moveEntry(to + 1, to);
        }
        used--;
    }

    private void moveEntry(int from, int to) {
        kinds[to] = kinds[from];
        numbers[to] = numbers[from];
        values[to] = values[from];
    }

    private int recordAt(int place) {
        if (place >= used) {
            recordKey = 0;
            recordValue = 0;
            return KEY_NONE;
        }
        recordKey = numbers[place];
        recordValue = values[place];
        return kinds[place];
    }
}
