/** Holds the class against PlainTester over every short test and over many long runs of calls. */
public final class ReferenceTest {
    private static final Due due = new Due();
    private static long state = 20261116L;

    public static void main(String[] args) {
        everyTestOfOneMarch();
        everyTestOfThreeShortMarches();
        soundTests();
        longRuns();
        due.end();
    }

    private static void everyTestOfOneMarch() {
        due.promise("one march");
        for (int direction = 0; direction < 2; direction++) {
            for (int length = 0; length <= 4; length++) {
                for (int code = 0; code < 1 << 2 * length; code++) {
                    Pair pair = new Pair();
                    pair.march(direction);
                    for (int i = 0; i < length; i++) {
                        pair.op(code >> 2 * i & 3);
                    }
                    pair.askAll();
                }
            }
        }
    }

    private static void everyTestOfThreeShortMarches() {
        due.promise("three marches");
        for (int code = 0; code < 1 << 9; code++) {
            Pair pair = new Pair();
            for (int m = 0; m < 3; m++) {
                int part = code >> 3 * m;
                pair.march(part & 1);
                pair.op(part >> 1 & 3);
            }
            pair.askAll();
        }
    }

    /** Six marches whose READs expect what was written last, as a real test has them. */
    private static void soundTests() {
        due.promise("sound tests");
        for (int round = 0; round < 100; round++) {
            Pair pair = new Pair();
            int held = next(2);
            pair.march(next(2));
            pair.op(held);
            for (int m = 1; m < 6; m++) {
                pair.march(next(2));
                int length = next(5);
                for (int i = 0; i < length; i++) {
                    if (next(2) == 0) {
                        pair.op(2 + held);
                    } else {
                        held = next(2);
                        pair.op(held);
                    }
                }
            }
            due.is("sound()", pair.tester.sound(), true);
            pair.askAll();
        }
    }

    /** Changes and wrong inputs in any order, with an object's last questions within its 512 calls. */
    private static void longRuns() {
        for (int run = 0; run < 60; run++) {
            due.promise("long run " + run);
            Pair pair = new Pair();
            for (int call = 0; call < 500; call++) {
                pair.anyCall();
            }
            pair.askBrief();
        }
    }

    // A sequence of its own, so that every run of the tests is the same.
    private static int next(int bound) {
        state = state * 6364136223846793005L + 1442695040888963407L;
        return (int) ((state >>> 33) % bound);
    }

    private static final class Pair {
        final MarchTester tester = new MarchTester();
        final PlainTester plain = new PlainTester();

        void march(int direction) {
            due.is("march(" + direction + ")", tester.march(direction), plain.march(direction));
        }

        void op(int op) {
            due.is("op(" + op + ")", tester.op(op), plain.op(op));
        }

        void anyCall() {
            int choice = next(100);
            if (choice < 20) {
                march(next(4) - 1);
            } else if (choice < 60) {
                op(next(6) - 1);
            } else if (choice < 80) {
                due.is("drop()", tester.drop(), plain.drop());
            } else if (choice < 88) {
                int m = next(9) - 1;
                due.is("turn(" + m + ")", tester.turn(m), plain.turn(m));
            } else if (choice < 90) {
                due.is("marches()", tester.marches(), plain.marches());
            } else if (choice < 92) {
                due.is("sound()", tester.sound(), plain.sound());
            } else if (choice < 94) {
                due.is("steps()", tester.steps(), plain.steps());
            } else {
                askOfFaults(choice, next(18) - 2, next(7) - 1, next(7) - 1);
            }
        }

        void askOfFaults(int choice, int kind, int v, int a) {
            String fault = "(" + kind + ", " + v + ", " + a + ")";
            if (choice < 96) {
                due.is("finds" + fault, tester.finds(kind, v, a), plain.finds(kind, v, a));
            } else if (choice < 98) {
                due.is("foundFrom" + fault, tester.foundFrom(kind, v, a), plain.foundFrom(kind, v, a));
            } else if (choice < 99) {
                due.is("found(" + kind + ")", tester.found(kind), plain.found(kind));
            } else {
                due.is("covered()", tester.covered(), plain.covered());
            }
        }

        void askBrief() {
            Answers.areBriefOf(due, tester, plain);
        }

        void askAll() {
            Answers.areAllOf(due, tester, plain);
        }
    }
}
