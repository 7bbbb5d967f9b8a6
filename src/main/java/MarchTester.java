/** Says which faults of a small memory a test by marching through it finds. */
public final class MarchTester {
    public static final int BAD = -1;
    public static final int FULL = -2;

    private static final int CELLS = 5;
    private static final int MAX_MARCHES = 6;
    private static final int MAX_OPS = 4;
    private static final int OP_SLOTS = MAX_MARCHES * MAX_OPS;
    private static final int OP_KINDS = 4;
    private static final int FIRST_READ = 2;

    private static final int KINDS = 14;
    private static final int FIRST_KIND_WITH_A = 4;
    private static final int NO_FAULT = KINDS;

    private static final int NO_MARCH = -1;

    private static final int FILLINGS = 32;
    private static final int ALL_FILLINGS = -1;

    private final int[] directions = new int[MAX_MARCHES];
    private final int[] opCounts = new int[MAX_MARCHES];
    private final int[] ops = new int[OP_SLOTS];
    private int marchCount;

    // All 32 fillings run side by side: bit f of cells[c] is what cell c holds
    // in the memory that began with filling f.
    private final int[] cells = new int[CELLS];

    public MarchTester() {
        marchCount = 0;
    }

    public int march(int direction) {
        if (direction != 0 && direction != 1) {
            return BAD;
        }
        if (marchCount >= MAX_MARCHES) {
            return FULL;
        }
        directions[marchCount] = direction;
        opCounts[marchCount] = 0;
        marchCount++;
        return marchCount - 1;
    }

    public int op(int op) {
        if (op < 0 || op >= OP_KINDS || marchCount == 0) {
            return BAD;
        }
        int last = marchCount - 1;
        if (opCounts[last] >= MAX_OPS) {
            return FULL;
        }
        ops[last * MAX_OPS + opCounts[last]] = op;
        opCounts[last]++;
        return opCounts[last];
    }

    public int drop() {
        if (marchCount == 0) {
            return BAD;
        }
        int last = marchCount - 1;
        if (opCounts[last] > 0) {
            opCounts[last]--;
        } else {
            marchCount--;
        }
        return marchCount;
    }

    public boolean turn(int m) {
        if (m < 0 || m >= marchCount) {
            return false;
        }
        directions[m] = 1 - directions[m];
        return true;
    }

    public int marches() {
        return marchCount;
    }

    public boolean sound() {
        return alarms(NO_FAULT, 0, 0, NO_MARCH) == 0;
    }

    public int steps() {
        int perCell = 0;
        for (int m = 0; m < marchCount; m++) {
            perCell += opCounts[m];
        }
        return perCell * CELLS;
    }

    public boolean finds(int kind, int v, int a) {
        return isFault(kind, v, a) && alarms(kind, v, a, NO_MARCH) == ALL_FILLINGS;
    }

    public int found(int kind) {
        if (!isKind(kind)) {
            return BAD;
        }
        return countFound(kind);
    }

    public int covered() {
        int kinds = 0;
        for (int kind = 0; kind < KINDS; kind++) {
            int faults = kind < FIRST_KIND_WITH_A ? CELLS : CELLS * (CELLS - 1);
            if (countFound(kind) == faults) {
                kinds |= 1 << kind;
            }
        }
        return kinds;
    }

    public int foundFrom(int kind, int v, int a) {
        if (!isFault(kind, v, a)) {
            return BAD;
        }
        int alarmed = alarms(kind, v, a, NO_MARCH);
        int ways = 0;
        for (int filling = 0; filling < FILLINGS; filling++) {
            ways += (alarmed >>> filling) & 1;
        }
        return ways;
    }

    public int spare() {
        int spared = 0;
        for (int m = 0; m < marchCount; m++) {
            if (losesNothingWithout(m)) {
                spared |= 1 << m;
            }
        }
        return spared;
    }

    private boolean losesNothingWithout(int m) {
        for (int kind = 0; kind < KINDS; kind++) {
            int others = choicesOfA(kind);
            for (int v = 0; v < CELLS; v++) {
                for (int a = 0; a < others; a++) {
                    if (isFault(kind, v, a)
                            && alarms(kind, v, a, NO_MARCH) == ALL_FILLINGS
                            && alarms(kind, v, a, m) != ALL_FILLINGS) {
                        return false;
                    }
                }
            }
        }
        return true;
    }

    private int countFound(int kind) {
        int others = choicesOfA(kind);
        int count = 0;
        for (int v = 0; v < CELLS; v++) {
            for (int a = 0; a < others; a++) {
                if (isFault(kind, v, a) && alarms(kind, v, a, NO_MARCH) == ALL_FILLINGS) {
                    count++;
                }
            }
        }
        return count;
    }

    // A kind without a cell a is gone through with one a, so that no fault counts twice.
    private static int choicesOfA(int kind) {
        return kind < FIRST_KIND_WITH_A ? 1 : CELLS;
    }

    private static boolean isKind(int kind) {
        return kind >= 0 && kind < KINDS;
    }

    private static boolean isCell(int cell) {
        return cell >= 0 && cell < CELLS;
    }

    private static boolean isFault(int kind, int v, int a) {
        if (!isKind(kind) || !isCell(v)) {
            return false;
        }
        return kind < FIRST_KIND_WITH_A || (isCell(a) && a != v);
    }

    /** The fillings (bit f for filling f) from which some READ finds another bit than it expects. */
    private int alarms(int kind, int v, int a, int leftOut) {
        fillAllWays();
        hold(kind, v, a);
        int alarmed = 0;
        for (int m = 0; m < marchCount; m++) {
            int count = m == leftOut ? 0 : opCounts[m];
            for (int step = 0; step < CELLS; step++) {
                int cell = directions[m] == 0 ? step : CELLS - 1 - step;
                for (int i = 0; i < count; i++) {
                    int op = ops[m * MAX_OPS + i];
                    int bits = -(op & 1);
                    if (op >= FIRST_READ) {
                        alarmed |= cells[cell] ^ bits;
                    } else {
                        write(cell, bits, kind, v, a);
                    }
                }
            }
        }
        return alarmed;
    }

    private void fillAllWays() {
        for (int cell = 0; cell < CELLS; cell++) {
            int bits = 0;
            for (int filling = 0; filling < FILLINGS; filling++) {
                bits |= ((filling >>> cell) & 1) << filling;
            }
            cells[cell] = bits;
        }
    }

    private void write(int cell, int bits, int kind, int v, int a) {
        int before = cells[cell];
        cells[cell] = cell == v ? taken(kind, before, bits) : bits;
        if (cell == a) {
            disturb(kind, v, ~before & bits, before & ~bits);
        }
        hold(kind, v, a);
    }

    /** What v has after bits were written over before (kinds 2 and 3). */
    private static int taken(int kind, int before, int bits) {
        switch (kind) {
            case 2:
                return before & bits;
            case 3:
                return before | bits;
            default:
                return bits;
        }
    }

    /** What a change of a by a write does to v (kinds 4 to 9). */
    private void disturb(int kind, int v, int risen, int fallen) {
        switch (kind) {
            case 4:
                cells[v] ^= risen;
                break;
            case 5:
                cells[v] ^= fallen;
                break;
            case 6:
                cells[v] &= ~risen;
                break;
            case 7:
                cells[v] |= risen;
                break;
            case 8:
                cells[v] &= ~fallen;
                break;
            case 9:
                cells[v] |= fallen;
                break;
            default:
                break;
        }
    }

    /** Sets v as a fault that lasts has it, at the beginning and after each write (kinds 0, 1, 10 to 13). */
    private void hold(int kind, int v, int a) {
        switch (kind) {
            case 0:
                cells[v] = 0;
                break;
            case 1:
                cells[v] = ALL_FILLINGS;
                break;
            case 10:
                cells[v] &= cells[a];
                break;
            case 11:
                cells[v] |= ~cells[a];
                break;
            case 12:
                cells[v] &= ~cells[a];
                break;
            case 13:
                cells[v] |= cells[a];
                break;
            default:
                break;
        }
    }
}
