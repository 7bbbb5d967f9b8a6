/**
 * One memory with one filling and at most one fault, told as the document tells it:
 * a bit at a time, with no regard to speed. The reference that the class is held against.
 */
final class PlainMemory {
    static final int NO_FAULT = -1;

    private final boolean[] bit = new boolean[5];
    private final int kind;
    private final int v;
    private final int a;

    PlainMemory(int filling, int kind, int v, int a) {
        this.kind = kind;
        this.v = v;
        this.a = a;
        for (int cell = 0; cell < 5; cell++) {
            bit[cell] = (filling >> cell & 1) == 1;
        }
        if (kind == 0 || kind == 1) {
            bit[v] = kind == 1;
        }
        setWhileAIsAsNamed();
    }

    boolean read(int cell) {
        return bit[cell];
    }

    void write(int cell, boolean value) {
        boolean stuck = cell == v && (kind == 0 || kind == 1);
        boolean stays = cell == v && (kind == 2 && !bit[v] && value || kind == 3 && bit[v] && !value);
        if (!stuck && !stays) {
            boolean rises = !bit[cell] && value;
            boolean falls = bit[cell] && !value;
            bit[cell] = value;
            if (cell == a && (rises || falls)) {
                afterChangeOfA(rises);
            }
        }
        setWhileAIsAsNamed();
    }

    private void afterChangeOfA(boolean rises) {
        if (kind == 4 && rises || kind == 5 && !rises) {
            bit[v] = !bit[v];
        }
        if (kind == 6 && rises || kind == 8 && !rises) {
            bit[v] = false;
        }
        if (kind == 7 && rises || kind == 9 && !rises) {
            bit[v] = true;
        }
    }

    private void setWhileAIsAsNamed() {
        if (kind >= 10) {
            boolean named = kind >= 12;
            if (bit[a] == named) {
                bit[v] = kind % 2 == 1;
            }
        }
    }
}
