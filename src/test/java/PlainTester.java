import java.util.ArrayList;
import java.util.List;

/** The document's methods over PlainMemory, each in the words of its promise. */
final class PlainTester {
    private static final class March {
        int direction;
        final List<Integer> ops = new ArrayList<>();
    }

    private final List<March> test = new ArrayList<>();

    int march(int direction) {
        if (direction != 0 && direction != 1) {
            return -1;
        }
        if (test.size() == 6) {
            return -2;
        }
        March added = new March();
        added.direction = direction;
        test.add(added);
        return test.size() - 1;
    }

    int op(int op) {
        if (op < 0 || op > 3 || test.isEmpty()) {
            return -1;
        }
        List<Integer> ops = test.get(test.size() - 1).ops;
        if (ops.size() == 4) {
            return -2;
        }
        ops.add(op);
        return ops.size();
    }

    int drop() {
        if (test.isEmpty()) {
            return -1;
        }
        List<Integer> ops = test.get(test.size() - 1).ops;
        if (ops.isEmpty()) {
            test.remove(test.size() - 1);
        } else {
            ops.remove(ops.size() - 1);
        }
        return test.size();
    }

    boolean turn(int m) {
        if (m < 0 || m >= test.size()) {
            return false;
        }
        test.get(m).direction ^= 1;
        return true;
    }

    int marches() {
        return test.size();
    }

    int steps() {
        int steps = 0;
        for (March march : test) {
            steps += 5 * march.ops.size();
        }
        return steps;
    }

    boolean sound() {
        return ways(test, PlainMemory.NO_FAULT, 0, 0) == 0;
    }

    boolean finds(int kind, int v, int a) {
        return isFault(kind, v, a) && ways(test, kind, v, a) == 32;
    }

    int foundFrom(int kind, int v, int a) {
        return isFault(kind, v, a) ? ways(test, kind, v, a) : -1;
    }

    int found(int kind) {
        if (kind < 0 || kind > 13) {
            return -1;
        }
        int found = 0;
        for (int[] fault : faultsOf(kind)) {
            found += finds(kind, fault[0], fault[1]) ? 1 : 0;
        }
        return found;
    }

    int covered() {
        int covered = 0;
        for (int kind = 0; kind < 14; kind++) {
            if (found(kind) == faultsOf(kind).size()) {
                covered |= 1 << kind;
            }
        }
        return covered;
    }

    int spare() {
        int spare = 0;
        for (int m = 0; m < test.size(); m++) {
            List<March> rest = new ArrayList<>(test);
            rest.remove(m);
            boolean allStillFound = true;
            for (int kind = 0; kind < 14; kind++) {
                for (int[] fault : faultsOf(kind)) {
                    if (finds(kind, fault[0], fault[1]) && ways(rest, kind, fault[0], fault[1]) != 32) {
                        allStillFound = false;
                    }
                }
            }
            if (allStillFound) {
                spare |= 1 << m;
            }
        }
        return spare;
    }

    private static List<int[]> faultsOf(int kind) {
        List<int[]> faults = new ArrayList<>();
        for (int v = 0; v < 5; v++) {
            if (kind < 4) {
                faults.add(new int[] {v, -1});
            }
            for (int a = 0; kind >= 4 && a < 5; a++) {
                if (a != v) {
                    faults.add(new int[] {v, a});
                }
            }
        }
        return faults;
    }

    private static boolean isFault(int kind, int v, int a) {
        boolean hasA = kind >= 4;
        return kind >= 0 && kind <= 13 && v >= 0 && v <= 4 && (!hasA || a >= 0 && a <= 4 && a != v);
    }

    private static int ways(List<March> marches, int kind, int v, int a) {
        int ways = 0;
        for (int filling = 0; filling < 32; filling++) {
            ways += alarms(marches, new PlainMemory(filling, kind, v, a)) ? 1 : 0;
        }
        return ways;
    }

    private static boolean alarms(List<March> marches, PlainMemory memory) {
        for (March march : marches) {
            for (int i = 0; i < 5; i++) {
                int cell = march.direction == 0 ? i : 4 - i;
                for (int op : march.ops) {
                    boolean one = op == 1 || op == 3;
                    if (op < 2) {
                        memory.write(cell, one);
                    } else if (memory.read(cell) != one) {
                        return true;
                    }
                }
            }
        }
        return false;
    }
}
