/** Each promise of the document by itself, with answers worked out by hand from its words. */
public final class PromisesTest {
    private static final int BAD = -1;
    private static final int FULL = -2;
    private static final int MIN = Integer.MIN_VALUE;
    private static final int MAX = Integer.MAX_VALUE;
    private static final int EVERY_KIND = (1 << 14) - 1;

    private static final Due due = new Due();

    public static void main(String[] args) {
        newObject();
        march();
        op();
        drop();
        turn();
        marches();
        sound();
        steps();
        findsKindsOfOneCell();
        findsKindsOfTwoCells();
        findsWrongInputs();
        found();
        covered();
        foundFrom();
        foundFromWrongInputs();
        spare();
        orderAndLimits();
        due.end();
    }

    private static void newObject() {
        due.promise("promise 1");
        MarchTester used = Notation.build("^w0 ^r0w1");
        MarchTester x = new MarchTester();
        due.is("marches()", x.marches(), 0);
        due.is("steps()", x.steps(), 0);
        due.is("sound()", x.sound(), true);
        due.is("covered()", x.covered(), 0);
        due.is("spare()", x.spare(), 0);
        due.is("found(5)", x.found(5), 0);
        due.is("finds(1, 1, 1)", x.finds(1, 1, 1), false);
        due.is("foundFrom(12, 1, 2)", x.foundFrom(12, 1, 2), 0);
        due.is("the other object's marches()", used.marches(), 2);
        due.is("the other object's steps()", used.steps(), 15);
    }

    private static void march() {
        due.promise("promise 2");
        MarchTester x = new MarchTester();
        int[] wrongDirections = {-1, 2, 3, MIN, MAX};
        for (int direction : wrongDirections) {
            due.is("march(" + direction + ")", x.march(direction), BAD);
        }
        due.is("marches() after wrong ones", x.marches(), 0);
        for (int m = 0; m < 6; m++) {
            due.is("march(" + m % 2 + ")", x.march(m % 2), m);
            due.is("steps() of marches without operations", x.steps(), 0);
        }
        due.is("march(0) as the seventh", x.march(0), FULL);
        due.is("march(1) as the seventh", x.march(1), FULL);
        due.is("marches()", x.marches(), 6);

        // Kind 7 is read as 1 only when the march comes to a before it comes to v.
        MarchTester up = Notation.build("^w0 ^r0w1");
        due.is("finds(7, 3, 1) upwards", up.finds(7, 3, 1), true);
        due.is("finds(7, 1, 3) upwards", up.finds(7, 1, 3), false);
        MarchTester down = Notation.build("^w0 vr0w1");
        due.is("finds(7, 3, 1) downwards", down.finds(7, 3, 1), false);
        due.is("finds(7, 1, 3) downwards", down.finds(7, 1, 3), true);
        due.is("finds(7, 0, 4) downwards", down.finds(7, 0, 4), true);
        due.is("finds(7, 4, 0) downwards", down.finds(7, 4, 0), false);
    }

    private static void op() {
        due.promise("promise 3");
        MarchTester x = new MarchTester();
        due.is("op(0) without a march", x.op(0), BAD);
        due.is("op(4) without a march", x.op(4), BAD);
        x.march(0);
        int[] wrongOps = {-1, 4, 5, MIN, MAX};
        for (int op : wrongOps) {
            due.is("op(" + op + ")", x.op(op), BAD);
        }
        due.is("steps() after wrong ones", x.steps(), 0);
        for (int i = 0; i < 4; i++) {
            due.is("op(" + i + ")", x.op(i), i + 1);
        }
        for (int i = 0; i < 4; i++) {
            due.is("op(" + i + ") as the fifth", x.op(i), FULL);
        }
        for (int op : wrongOps) {
            due.is("op(" + op + ") as the fifth", x.op(op), BAD);
        }
        due.is("steps()", x.steps(), 20);
        x.march(1);
        due.is("op(3) in the next march", x.op(3), 1);
        due.is("steps()", x.steps(), 25);

        due.is("w0r0", Notation.build("^w0r0").sound(), true);
        due.is("w0r1", Notation.build("^w0r1").sound(), false);
        due.is("w1r0", Notation.build("^w1r0").sound(), false);
        due.is("w1r1", Notation.build("^w1r1").sound(), true);
        due.is("w1w0r0", Notation.build("^w1w0r0").sound(), true);
        due.is("w1w0r0r1", Notation.build("^w1w0r0r1").sound(), false);
    }

    private static void drop() {
        due.promise("promise 4");
        MarchTester x = new MarchTester();
        due.is("drop() of nothing", x.drop(), BAD);
        due.is("marches()", x.marches(), 0);
        x = Notation.build("^w0r0 vr0");
        due.is("drop() of r0", x.drop(), 2);
        due.is("steps()", x.steps(), 10);
        due.is("drop() of the march", x.drop(), 1);
        due.is("steps()", x.steps(), 10);
        due.is("found(1)", x.found(1), 5);
        due.is("drop() of r0", x.drop(), 1);
        due.is("found(1)", x.found(1), 0);
        due.is("op(3) instead", x.op(3), 2);
        due.is("sound()", x.sound(), false);
        due.is("drop()", x.drop(), 1);
        due.is("drop()", x.drop(), 1);
        due.is("drop()", x.drop(), 0);
        due.is("drop() of nothing", x.drop(), BAD);
        due.is("op(0) after all are dropped", x.op(0), BAD);
        due.is("march(1)", x.march(1), 0);
        due.is("steps()", x.steps(), 0);
        due.is("op(1)", x.op(1), 1);

        MarchTester full = Notation.build("^^^^^vw0w0w0w0");
        due.is("drop() of a full march", full.drop(), 6);
        due.is("op(1) in its place", full.op(1), 4);
        due.is("op(1)", full.op(1), FULL);
        for (int i = 0; i < 4; i++) {
            due.is("drop()", full.drop(), 6);
        }
        due.is("drop()", full.drop(), 5);
        due.is("march(0) in its place", full.march(0), 5);
        due.is("op(0)", full.op(0), 1);
    }

    private static void turn() {
        due.promise("promise 5");
        MarchTester x = new MarchTester();
        due.is("turn(0) without a march", x.turn(0), false);
        x = Notation.build("^w0 ^r0w1");
        int[] wrongMarches = {-1, 2, 5, 6, MIN, MAX};
        for (int m : wrongMarches) {
            due.is("turn(" + m + ")", x.turn(m), false);
        }
        due.is("finds(7, 3, 1)", x.finds(7, 3, 1), true);
        due.is("turn(1)", x.turn(1), true);
        due.is("finds(7, 3, 1) turned", x.finds(7, 3, 1), false);
        due.is("finds(7, 1, 3) turned", x.finds(7, 1, 3), true);
        due.is("turn(0)", x.turn(0), true);
        due.is("finds(7, 1, 3) with the other turned", x.finds(7, 1, 3), true);
        due.is("turn(1)", x.turn(1), true);
        due.is("finds(7, 3, 1) turned back", x.finds(7, 3, 1), true);
        due.is("finds(7, 1, 3) turned back", x.finds(7, 1, 3), false);
        x.drop();
        x.drop();
        x.drop();
        due.is("turn(1) of a dropped march", x.turn(1), false);
        due.is("marches()", x.marches(), 1);
        // The direction of a dropped march must not cling to the next one in its place.
        x.march(1);
        x.op(2);
        x.op(1);
        due.is("finds(7, 1, 3) of a new march", x.finds(7, 1, 3), true);
        due.is("finds(7, 3, 1) of a new march", x.finds(7, 3, 1), false);
    }

    private static void marches() {
        due.promise("promise 6");
        MarchTester x = new MarchTester();
        for (int m = 1; m <= 6; m++) {
            x.march(1);
            due.is("marches()", x.marches(), m);
            x.op(0);
            due.is("marches() after an operation", x.marches(), m);
        }
        x.march(0);
        due.is("marches() after a march too many", x.marches(), 6);
        x.drop();
        due.is("marches() after an operation is dropped", x.marches(), 6);
        x.drop();
        due.is("marches() after a march is dropped", x.marches(), 5);
        x.march(7);
        due.is("marches() after a wrong march", x.marches(), 5);
    }

    private static void sound() {
        due.promise("promise 7");
        due.is("marches without operations", Notation.build("^v").sound(), true);
        due.is("writes alone", Notation.build("^w0w1 vw0").sound(), true);
        due.is("^r0", Notation.build("^r0").sound(), false);
        due.is("^r1", Notation.build("^r1").sound(), false);
        due.is("^r0w0", Notation.build("^r0w0").sound(), false);
        due.is("^w0 vr0w1r1 ^r1", Notation.build("^w0 vr0w1r1 ^r1").sound(), true);
        due.is("^w0 vr0w1r1 ^r0", Notation.build("^w0 vr0w1r1 ^r0").sound(), false);
        due.is("^w0 ^r0w1 ^r1w0 vr0w1 vr1w0 ^r0",
            Notation.build("^w0 ^r0w1 ^r1w0 vr0w1 vr1w0 ^r0").sound(), true);
        MarchTester x = Notation.build("^w0 ^r1");
        due.is("^w0 ^r1", x.sound(), false);
        x.drop();
        due.is("^w0 ^", x.sound(), true);
    }

    private static void steps() {
        due.promise("promise 8");
        due.is("^", Notation.build("^").steps(), 0);
        due.is("^w0", Notation.build("^w0").steps(), 5);
        due.is("^w0 vr0w1 ^", Notation.build("^w0 vr0w1 ^").steps(), 15);
        MarchTester x = new MarchTester();
        for (int m = 0; m < 6; m++) {
            x.march(m % 2);
            for (int i = 0; i < 6; i++) {
                x.op(i);
            }
        }
        due.is("six marches of four", x.steps(), 120);
        x.drop();
        due.is("one less", x.steps(), 115);
        x.turn(2);
        due.is("one turned", x.steps(), 115);
    }

    private static void findsKindsOfOneCell() {
        due.promise("promise 9");
        for (int v = 0; v < 5; v++) {
            due.is("w1r1 finds 0", Notation.build("^w1r1").finds(0, v, v), true);
            due.is("w0r0 finds 0", Notation.build("^w0r0").finds(0, v, v), false);
            due.is("w0r0 finds 1", Notation.build("^w0r0").finds(1, v, v), true);
            due.is("w1r1 finds 1", Notation.build("^w1r1").finds(1, v, v), false);
            // From the bit 1 nothing holds v back, so v must have been 0 before.
            due.is("w1r1 finds 2", Notation.build("^w1r1").finds(2, v, v), false);
            due.is("w0w1r1 finds 2", Notation.build("^w0w1r1").finds(2, v, v), true);
            due.is("w1w0r0 finds 2", Notation.build("^w1w0r0").finds(2, v, v), false);
            due.is("w0r0 finds 3", Notation.build("^w0r0").finds(3, v, v), false);
            due.is("w1w0r0 finds 3", Notation.build("^w1w0r0").finds(3, v, v), true);
            due.is("w0w1r1 finds 3", Notation.build("^w0w1r1").finds(3, v, v), false);
        }
        int[] anyA = {-1, 0, 4, 5, MIN, MAX};
        for (int a : anyA) {
            due.is("a = " + a + " does not matter for 0", Notation.build("^w1r1").finds(0, 2, a), true);
            due.is("a = " + a + " does not matter for 1", Notation.build("^w0r0").finds(1, 2, a), true);
            due.is("a = " + a + " does not matter for 2", Notation.build("^w0w1r1").finds(2, 2, a), true);
            due.is("a = " + a + " does not matter for 3", Notation.build("^w1w0r0").finds(3, 2, a), true);
        }
    }

    private static void findsKindsOfTwoCells() {
        due.promise("promise 9");
        pair("^w0 ^r0w1", 4, true, false);
        pair("^w1 ^r1w0", 4, false, false);
        pair("^w1 ^r1w0", 5, true, false);
        pair("^w0 ^r0w1", 5, false, false);
        // v is 1 already when a, later in the way, makes it 0: the last march reads that.
        pair("^w0 ^r0w1 ^r1", 6, false, true);
        pair("^w0 ^r0w1 ^r1", 7, true, false);
        pair("^w0 ^r0w1 ^r1", 8, false, false);
        pair("^w0 ^r0w1 ^r1", 9, false, false);
        pair("^w1 ^r1w0 ^r0", 6, false, false);
        pair("^w1 ^r1w0 ^r0", 7, false, false);
        pair("^w1 ^r1w0 ^r0", 8, true, false);
        pair("^w1 ^r1w0 ^r0", 9, false, true);
        // All cells 0 hold what the kind says of an a that is 0, all 1 what it says of an a that is 1.
        pair("^w0 ^r0", 10, false, false);
        pair("^w0 ^r0", 11, true, true);
        pair("^w0 ^r0", 12, false, false);
        pair("^w1 ^r1", 12, true, true);
        pair("^w1 ^r1", 13, false, false);
        pair("^w1 ^r1", 11, false, false);
        // What v got while a was as named stays when a is so no more.
        pair("^w0 vw1 ^r1", 10, true, false);
        pair("^w0 ^w1 ^r1", 10, false, true);
        pair("^w1 vw0 ^r0", 13, true, false);
        pair("^w1 ^w0 ^r0", 13, false, true);
    }

    /** Whether the test finds a kind where a comes before v, and where it comes after v. */
    private static void pair(String test, int kind, boolean before, boolean after) {
        MarchTester x = Notation.build(test);
        for (int v = 0; v < 5; v++) {
            for (int a = 0; a < 5; a++) {
                boolean want = a != v && (a < v ? before : after);
                due.is(test + " finds(" + kind + ", " + v + ", " + a + ")", x.finds(kind, v, a), want);
            }
        }
    }

    private static void findsWrongInputs() {
        due.promise("promise 9");
        MarchTester x = Notation.build("^r0r1");
        due.is("finds(0, 0, 0)", x.finds(0, 0, 0), true);
        due.is("finds(13, 4, 0)", x.finds(13, 4, 0), true);
        int[] wrongKinds = {-1, 14, 15, MIN, MAX};
        for (int kind : wrongKinds) {
            due.is("finds(" + kind + ", 0, 1)", x.finds(kind, 0, 1), false);
        }
        int[] wrongCells = {-1, 5, 6, MIN, MAX};
        for (int cell : wrongCells) {
            for (int kind = 0; kind < 14; kind++) {
                due.is("finds(" + kind + ", " + cell + ", 1)", x.finds(kind, cell, 1), false);
                due.is("finds(" + kind + ", 1, " + cell + ")", x.finds(kind, 1, cell), kind < 4);
            }
        }
        for (int kind = 0; kind < 14; kind++) {
            due.is("finds(" + kind + ", 3, 3)", x.finds(kind, 3, 3), kind < 4);
        }
    }

    private static void found() {
        due.promise("promise 10");
        MarchTester x = Notation.build("^r0r1");
        for (int kind = 0; kind < 14; kind++) {
            due.is("found(" + kind + ")", x.found(kind), kind < 4 ? 5 : 20);
        }
        int[] wrongKinds = {-1, 14, 15, MIN, MAX};
        for (int kind : wrongKinds) {
            due.is("found(" + kind + ")", x.found(kind), BAD);
        }
        // Each kind of one cell is found everywhere; of two cells, where a comes after v or before it.
        x = Notation.build("^w0 ^r0w1 ^r1");
        int[] want = {5, 5, 5, 0, 20, 0, 10, 10, 0, 0, 10, 20, 20, 10};
        for (int kind = 0; kind < 14; kind++) {
            due.is("^w0 ^r0w1 ^r1 found(" + kind + ")", x.found(kind), want[kind]);
        }
    }

    private static void covered() {
        due.promise("promise 11");
        due.is("^w0 ^r0", Notation.build("^w0 ^r0").covered(), 1 << 1 | 1 << 11);
        due.is("^w1 ^r1", Notation.build("^w1 ^r1").covered(), 1 << 0 | 1 << 12);
        due.is("^w0 ^r0w1 ^r1", Notation.build("^w0 ^r0w1 ^r1").covered(),
            1 << 0 | 1 << 1 | 1 << 2 | 1 << 4 | 1 << 11 | 1 << 12);
        due.is("^w0 ^r0w1 ^r1w0 vr0w1 vr1w0 ^r0",
            Notation.build("^w0 ^r0w1 ^r1w0 vr0w1 vr1w0 ^r0").covered(), EVERY_KIND);
        due.is("^w0", Notation.build("^w0").covered(), 0);
    }

    private static void foundFrom() {
        due.promise("promise 12");
        MarchTester x = Notation.build("^r1");
        due.is("^r1 foundFrom(0, 2, 2)", x.foundFrom(0, 2, 2), 32);
        due.is("^r1 foundFrom(1, 2, 2)", x.foundFrom(1, 2, 2), 30);
        due.is("^r1 foundFrom(2, 2, 2)", x.foundFrom(2, 2, 2), 31);
        due.is("^r1 foundFrom(7, 2, 1)", x.foundFrom(7, 2, 1), 31);
        // v is set at the beginning when a is as named: all cells must be 1 for no alarm.
        due.is("^r1 foundFrom(10, 2, 1)", x.foundFrom(10, 2, 1), 31);
        due.is("^r1 foundFrom(11, 2, 1)", x.foundFrom(11, 2, 1), 31);
        due.is("^r1 foundFrom(12, 2, 1)", x.foundFrom(12, 2, 1), 32);
        due.is("^r1 foundFrom(13, 2, 1)", x.foundFrom(13, 2, 1), 30);
        x = Notation.build("^r0");
        due.is("^r0 foundFrom(0, 4, 9)", x.foundFrom(0, 4, 9), 30);
        due.is("^r0 foundFrom(1, 4, 9)", x.foundFrom(1, 4, 9), 32);
        due.is("^r0 foundFrom(10, 2, 1)", x.foundFrom(10, 2, 1), 30);
        due.is("^r0 foundFrom(11, 2, 1)", x.foundFrom(11, 2, 1), 32);
        due.is("^r0 foundFrom(12, 2, 1)", x.foundFrom(12, 2, 1), 31);
        due.is("^r0 foundFrom(13, 2, 1)", x.foundFrom(13, 2, 1), 31);
        x = Notation.build("^w0 ^r0");
        due.is("^w0 ^r0 foundFrom(3, 1, -5)", x.foundFrom(3, 1, -5), 16);
        due.is("^w0 ^r0 foundFrom(2, 1, -5)", x.foundFrom(2, 1, -5), 0);
        due.is("^w0 ^r0 foundFrom(9, 1, 2)", x.foundFrom(9, 1, 2), 16);
        due.is("^w0 ^r0 foundFrom(9, 2, 1)", x.foundFrom(9, 2, 1), 0);
        due.is("^w0 ^r0 foundFrom(5, 1, 2)", x.foundFrom(5, 1, 2), 16);
        due.is("^w0 ^r0 foundFrom(13, 0, 3)", x.foundFrom(13, 0, 3), 16);
        due.is("^w0 ^r0 foundFrom(13, 3, 0)", x.foundFrom(13, 3, 0), 0);
        due.is("^w0 ^r0 foundFrom(11, 3, 0)", x.foundFrom(11, 3, 0), 32);
        due.is("the same asked again", x.foundFrom(13, 0, 3), 16);
    }

    private static void foundFromWrongInputs() {
        due.promise("promise 12");
        MarchTester x = Notation.build("^r0r1");
        int[] wrongKinds = {-1, 14, 15, MIN, MAX};
        for (int kind : wrongKinds) {
            due.is("foundFrom(" + kind + ", 0, 1)", x.foundFrom(kind, 0, 1), BAD);
        }
        int[] wrongCells = {-1, 5, 6, MIN, MAX};
        for (int cell : wrongCells) {
            for (int kind = 0; kind < 14; kind++) {
                due.is("foundFrom(" + kind + ", " + cell + ", 1)", x.foundFrom(kind, cell, 1), BAD);
                due.is("foundFrom(" + kind + ", 1, " + cell + ")", x.foundFrom(kind, 1, cell), kind < 4 ? 32 : BAD);
            }
        }
        for (int kind = 0; kind < 14; kind++) {
            due.is("foundFrom(" + kind + ", 0, 0)", x.foundFrom(kind, 0, 0), kind < 4 ? 32 : BAD);
        }
    }

    private static void spare() {
        due.promise("promise 13");
        due.is("no fault is found, so none is lost", Notation.build("^w0 vw1 ^").spare(), 7);
        due.is("six marches without operations", Notation.build("^^^vvv").spare(), 63);
        // Kind 2 needs v to be 0 before it is written 1, and a READ; here each march is alone with its part.
        due.is("^w0w1 ^r1", Notation.build("^w0w1 ^r1").spare(), 0);
        due.is("^w0w1 ^ ^r1 v", Notation.build("^w0w1 ^ ^r1 v").spare(), 10);
        // Either of two equal marches can be left out, though not both.
        due.is("^w0w1 ^r1 vr1", Notation.build("^w0w1 ^r1 vr1").spare(), 6);
        // Kind 5 needs a to be 1 before the last march that writes; which march made it so does not matter.
        due.is("^w0w1 ^w0w1 ^r1", Notation.build("^w0w1 ^w0w1 ^r1").spare(), 0);
        due.is("^w0w1 ^w0w1 ^w0w1 ^r1", Notation.build("^w0w1 ^w0w1 ^w0w1 ^r1").spare(), 7);
        // Kinds 1 and 11, all that ^w0 ^r0 finds, are found by the READ alone.
        due.is("^w0 ^r0", Notation.build("^w0 ^r0").spare(), 1);
        MarchTester x = Notation.build("^w0w1 ^r1 vr1");
        x.spare();
        due.is("marches() after spare()", x.marches(), 3);
        due.is("steps() after spare()", x.steps(), 20);
        x.drop();
        due.is("spare() of ^w0w1 ^r1 v", x.spare(), 4);
    }

    private static void orderAndLimits() {
        due.promise("promise 14");
        MarchTester x = Notation.build("^^^^^^");
        due.is("march(2) as the seventh", x.march(2), BAD);
        due.is("march(-1) as the seventh", x.march(-1), BAD);
        due.is("march(1) as the seventh", x.march(1), FULL);
        x = Notation.build("^r0r1 vr1r0");
        due.is("sound()", x.sound(), false);
        due.is("finds(6, 1, 0)", x.finds(6, 1, 0), true);
        due.is("found(6)", x.found(6), 20);
        due.is("covered()", x.covered(), EVERY_KIND);
        due.is("foundFrom(6, 1, 0)", x.foundFrom(6, 1, 0), 32);
        due.is("spare()", x.spare(), 3);
        // Without march 1 the READ of a 1 goes wrong in every memory, so that march is spare.
        x = Notation.build("^w0 ^w1 ^r1");
        due.is("sound()", x.sound(), true);
        due.is("found(2)", x.found(2), 5);
        due.is("spare()", x.spare(), 2);
    }
}
