/**
 * The boundary cases that the document names for building a test: promises 1 to 6 and 8, the
 * limits under "Terms" and the order under promise 14. A method for each sentence.
 */
public final class BuildingEdgesTest {
    private static final int BAD = -1;
    private static final int FULL = -2;
    private static final String LARGEST = "^w0w0w0w0 ^r0w1r1w1 vr1w0r0w0 ^r0w1r1w0 vr0r0w1r1 ^r1w0r0r0";

    private static final Due due = new Due();

    public static void main(String[] args) {
        constants();
        newObjectIsEmpty();
        newObjectIsEmptyBesideAnother();
        marchIsWithoutOperations();
        marchAnswersItsNumber();
        marchBadDirection();
        marchFullAtSix();
        marchBadBeforeFull();
        opAnswersHowMany();
        opBadOperation();
        opBadWithoutMarch();
        opFullAtFour();
        opTestedInThisOrder();
        opGoesToTheLastMarch();
        dropTakesTheLastOperation();
        dropTakesTheEmptyMarch();
        dropAnswersMarchesLeft();
        dropBadWhenNone();
        turnFirstAndLast();
        turnFalseWhenNone();
        turnTwiceIsBack();
        turnMarchWithoutOperations();
        turnEndsWithItsMarch();
        marchesFromNoneToSix();
        stepsFromNoneToMost();
        due.end();
    }

    private static void constants() {
        due.promise("BAD = -1, FULL = -2");
        due.is("BAD", MarchTester.BAD, -1);
        due.is("FULL", MarchTester.FULL, -2);
    }

    private static void newObjectIsEmpty() {
        due.promise("1: An empty test");
        MarchTester x = new MarchTester();
        due.is("marches()", x.marches(), 0);
        due.is("steps()", x.steps(), 0);
        due.is("sound()", x.sound(), true);
        due.is("covered()", x.covered(), 0);
        due.is("spare()", x.spare(), 0);
        due.is("op(0)", x.op(0), BAD);
        due.is("turn(0)", x.turn(0), false);
        due.is("drop()", x.drop(), BAD);
        for (int kind = 0; kind < 14; kind++) {
            due.is("found(" + kind + ")", x.found(kind), 0);
            due.is("finds(" + kind + ", 4, 0)", x.finds(kind, 4, 0), false);
            due.is("foundFrom(" + kind + ", 4, 0)", x.foundFrom(kind, 4, 0), 0);
        }
        due.is("march(0)", x.march(0), 0);
    }

    private static void newObjectIsEmptyBesideAnother() {
        due.promise("1: An empty test, whatever another object holds");
        MarchTester full = Notation.build(LARGEST);
        MarchTester x = new MarchTester();
        due.is("marches() of the new one", x.marches(), 0);
        due.is("march(1) of the new one", x.march(1), 0);
        due.is("op(0) of the new one", x.op(0), 1);
        due.is("marches() of the full one", full.marches(), 6);
        Answers.areOf(due, full, LARGEST);
        Answers.areOf(due, x, "vw0");
    }

    private static void marchIsWithoutOperations() {
        due.promise("2: Appends a march without operations");
        MarchTester x = Notation.build("^w0w0w0w0");
        x.march(1);
        due.is("steps() after a full march and a new one", x.steps(), 20);
        due.is("op(0) of the new march", x.op(0), 1);
        x.drop();
        x.drop();
        x.march(0);
        due.is("steps() with a march in a dropped one's place", x.steps(), 20);
        due.is("op(0) in a dropped one's place", x.op(0), 1);
    }

    private static void marchAnswersItsNumber() {
        due.promise("2: answers its number (0 the first)");
        for (int direction = 0; direction <= 1; direction++) {
            MarchTester x = new MarchTester();
            for (int m = 0; m < 6; m++) {
                due.is("march(" + direction + ")", x.march(direction), m);
            }
            x.drop();
            due.is("march(" + direction + ") after a drop", x.march(direction), 5);
        }
    }

    private static void marchBadDirection() {
        due.promise("2: BAD when direction is not 0 or 1");
        MarchTester empty = new MarchTester();
        MarchTester x = Notation.build("vw1 vr1w0w1 ^w0 vr0 vw1r1");
        for (int direction : Outside.of(0, 1)) {
            due.is("march(" + direction + ") of an empty test", empty.march(direction), BAD);
            due.is("march(" + direction + ")", x.march(direction), BAD);
        }
        due.is("marches() of the empty test", empty.marches(), 0);
        due.is("op(0) of the empty test", empty.op(0), BAD);
        Answers.areOf(due, x, "vw1 vr1w0w1 ^w0 vr0 vw1r1");
    }

    private static void marchFullAtSix() {
        due.promise("2: FULL when there are six");
        for (int direction = 0; direction <= 1; direction++) {
            MarchTester six = Notation.build(Answers.PROBE);
            due.is("march(" + direction + ") as the seventh", six.march(direction), FULL);
            Answers.areOf(due, six, Answers.PROBE);
            due.is("op(1) goes to the sixth", six.op(1), 3);
        }
        MarchTester x = Notation.build("^^^^^");
        due.is("march(1) as the sixth", x.march(1), 5);
        due.is("march(0) when the sixth has no operations", x.march(0), FULL);
        x.drop();
        due.is("march(0) when there are five again", x.march(0), 5);
        due.is("march(0) when there are six again", x.march(0), FULL);
    }

    private static void marchBadBeforeFull() {
        due.promise("14: march: BAD is tested before FULL");
        MarchTester x = Notation.build(Answers.PROBE);
        for (int direction : Outside.of(0, 1)) {
            due.is("march(" + direction + ") as the seventh", x.march(direction), BAD);
        }
        Answers.areOf(due, x, Answers.PROBE);
        due.is("march(0) as the seventh", x.march(0), FULL);
    }

    private static void opAnswersHowMany() {
        due.promise("3: Appends an operation to the last march and answers how many it has");
        for (int first = 0; first < 4; first++) {
            MarchTester x = Notation.build("^w0w0w0");
            x.march(0);
            for (int i = 0; i < 4; i++) {
                due.is("op(" + (first + i) % 4 + ")", x.op((first + i) % 4), i + 1);
            }
        }
    }

    private static void opBadOperation() {
        due.promise("3: BAD when op is not 0 .. 3");
        MarchTester x = Notation.build("^w0 ^r0");
        for (int op : Outside.of(0, 3)) {
            due.is("op(" + op + ")", x.op(op), BAD);
        }
        Answers.areOf(due, x, "^w0 ^r0");
        due.is("op(3)", x.op(3), 2);
        due.is("op(0)", x.op(0), 3);
    }

    private static void opBadWithoutMarch() {
        due.promise("3: BAD when there is no march");
        for (int op = 0; op < 4; op++) {
            MarchTester x = new MarchTester();
            due.is("op(" + op + ") of a new object", x.op(op), BAD);
            x.march(2);
            due.is("op(" + op + ") after a refused march", x.op(op), BAD);
            due.is("march(0)", x.march(0), 0);
            due.is("steps() of the first march", x.steps(), 0);
            x.drop();
            due.is("op(" + op + ") after the only march is dropped", x.op(op), BAD);
            due.is("marches()", x.marches(), 0);
        }
    }

    private static void opFullAtFour() {
        due.promise("3: FULL when it has four");
        MarchTester x = Notation.build("^w0 ^r0w1r1w0");
        for (int op = 0; op < 4; op++) {
            due.is("op(" + op + ") as the fifth", x.op(op), FULL);
        }
        Answers.areOf(due, x, "^w0 ^r0w1r1w0");
        x.march(1);
        due.is("op(2) of a new march", x.op(2), 1);
        MarchTester last = Notation.build(LARGEST);
        for (int op = 0; op < 4; op++) {
            due.is("op(" + op + ") as the fifth of the sixth march", last.op(op), FULL);
        }
        Answers.areOf(due, last, LARGEST);
        last.drop();
        due.is("op(0) as the fourth again", last.op(0), 4);
        due.is("op(0) as the fifth again", last.op(0), FULL);
    }

    private static void opTestedInThisOrder() {
        due.promise("3: BAD .. FULL when it has four (tested in this order)");
        MarchTester x = Notation.build("^w0 ^r0w1r1w0");
        MarchTester empty = new MarchTester();
        for (int op : Outside.of(0, 3)) {
            due.is("op(" + op + ") as the fifth", x.op(op), BAD);
            due.is("op(" + op + ") without a march", empty.op(op), BAD);
        }
        due.is("op(3) as the fifth", x.op(3), FULL);
        Answers.areOf(due, x, "^w0 ^r0w1r1w0");
    }

    private static void opGoesToTheLastMarch() {
        due.promise("3: to the last march");
        MarchTester x = Notation.build("^w0 v ^w1");
        due.is("op(3)", x.op(3), 2);
        Answers.areOf(due, x, "^w0 v ^w1r1");
        x = Notation.build("^w0w0w0w0 v");
        x.drop();
        due.is("op(0), the full march being the last again", x.op(0), FULL);
        x.drop();
        due.is("op(1), with a place free", x.op(1), 4);
        Answers.areOf(due, x, "^w0w0w0w1");
    }

    private static void dropTakesTheLastOperation() {
        due.promise("4: Takes the last operation of the last march away");
        MarchTester x = Notation.build("^w0r0 ^r0w1r1w0");
        due.is("drop() of the fourth", x.drop(), 2);
        Answers.areOf(due, x, "^w0r0 ^r0w1r1");
        x.drop();
        due.is("drop() of the second", x.drop(), 2);
        due.is("drop() of the only one left", x.drop(), 2);
        due.is("the march stays", x.marches(), 2);
        Answers.areOf(due, x, "^w0r0 ^");
    }

    private static void dropTakesTheEmptyMarch() {
        due.promise("4: or that march if it has none");
        MarchTester x = Notation.build("^w0r0r1 v ^");
        due.is("drop() of the third march", x.drop(), 2);
        due.is("steps()", x.steps(), 15);
        due.is("drop() of the second march", x.drop(), 1);
        due.is("steps()", x.steps(), 15);
        due.is("drop() of the first march's last operation", x.drop(), 1);
        due.is("sound() without its r1", x.sound(), true);
        Answers.areOf(due, x, "^w0r0");
    }

    private static void dropAnswersMarchesLeft() {
        due.promise("4: answers how many marches are left");
        MarchTester x = Notation.build(LARGEST);
        for (int m = 5; m >= 0; m--) {
            for (int i = 3; i >= 0; i--) {
                due.is("drop() of an operation of march " + m, x.drop(), m + 1);
                due.is("steps()", x.steps(), 5 * (4 * m + i));
            }
            due.is("drop() of march " + m, x.drop(), m);
            due.is("marches()", x.marches(), m);
        }
    }

    private static void dropBadWhenNone() {
        due.promise("4: BAD when there is none");
        MarchTester x = new MarchTester();
        due.is("drop() of a new object", x.drop(), BAD);
        due.is("drop() again", x.drop(), BAD);
        due.is("marches()", x.marches(), 0);
        due.is("march(0)", x.march(0), 0);
        due.is("drop() of the only march", x.drop(), 0);
        due.is("drop() after it", x.drop(), BAD);
        for (int m = 0; m < 6; m++) {
            due.is("march(1)", x.march(1), m);
        }
        due.is("march(1)", x.march(1), FULL);
    }

    /** Kind 7 is read where the march that writes 1 comes to a before it comes to v. */
    private static void turnFirstAndLast() {
        due.promise("5: Turns the direction of march m around and answers true");
        MarchTester x = Notation.build("^r0w1 ^w0 ^ ^ ^ ^w0");
        due.is("turn(0)", x.turn(0), true);
        Answers.areOf(due, x, "vr0w1 ^w0 ^ ^ ^ ^w0");
        x = Notation.build("^w0 ^ ^ ^ ^ ^r0w1");
        due.is("finds(7, 4, 0) upwards", x.finds(7, 4, 0), true);
        due.is("finds(7, 0, 4) upwards", x.finds(7, 0, 4), false);
        due.is("turn(5)", x.turn(5), true);
        due.is("finds(7, 4, 0) downwards", x.finds(7, 4, 0), false);
        due.is("finds(7, 0, 4) downwards", x.finds(7, 0, 4), true);
        Answers.areOf(due, x, "^w0 ^ ^ ^ ^ vr0w1");
        String[] turned = {"^w0 ^r0w1 vr1w0", "vw0 ^r0w1 vr1w0", "^w0 vr0w1 vr1w0", "^w0 ^r0w1 ^r1w0"};
        for (int m = 0; m < 3; m++) {
            x = Notation.build(turned[0]);
            due.is("turn(" + m + ") alone", x.turn(m), true);
            Answers.areOf(due, x, turned[m + 1]);
        }
    }

    private static void turnFalseWhenNone() {
        due.promise("5: false when there is none");
        for (int count = 0; count <= 6; count++) {
            MarchTester x = new MarchTester();
            for (int m = 0; m < count; m++) {
                x.march(m % 2);
            }
            due.is("turn(-1) of " + count, x.turn(-1), false);
            for (int m = 0; m < 10; m++) {
                due.is("turn(" + m + ") of " + count, x.turn(m), m < count);
            }
            for (int m : Outside.of(0, count - 1)) {
                due.is("turn(" + m + ") of " + count, x.turn(m), m >= 0 && m < count);
            }
        }
        MarchTester x = Notation.build(Answers.PROBE);
        for (int m : Outside.of(0, 5)) {
            x.turn(m);
        }
        Answers.areOf(due, x, Answers.PROBE);
    }

    private static void turnTwiceIsBack() {
        due.promise("5: around, and around again");
        MarchTester x = Notation.build("^w0 vr0w1");
        x.turn(1);
        due.is("finds(7, 3, 2) upwards", x.finds(7, 3, 2), true);
        due.is("turn(1)", x.turn(1), true);
        due.is("finds(7, 3, 2) downwards", x.finds(7, 3, 2), false);
        due.is("finds(7, 2, 3) downwards", x.finds(7, 2, 3), true);
        Answers.areOf(due, x, "^w0 vr0w1");
    }

    private static void turnMarchWithoutOperations() {
        due.promise("5: turns a march without operations");
        MarchTester x = Notation.build("^w0 ^");
        due.is("turn(1)", x.turn(1), true);
        due.is("marches()", x.marches(), 2);
        x.op(2);
        due.is("op(1) of the turned march", x.op(1), 2);
        due.is("finds(7, 1, 2)", x.finds(7, 1, 2), true);
        due.is("finds(7, 2, 1)", x.finds(7, 2, 1), false);
    }

    private static void turnEndsWithItsMarch() {
        due.promise("5: the direction of march m, and of none in its place later");
        MarchTester x = Notation.build("^w0 ^");
        x.turn(1);
        x.drop();
        due.is("turn(1) when it is dropped", x.turn(1), false);
        x.march(0);
        x.op(2);
        x.op(1);
        due.is("finds(7, 2, 1)", x.finds(7, 2, 1), true);
        due.is("finds(7, 1, 2)", x.finds(7, 1, 2), false);
    }

    private static void marchesFromNoneToSix() {
        due.promise("6: The number of marches");
        MarchTester x = new MarchTester();
        due.is("marches() of none", x.marches(), 0);
        for (int m = 1; m <= 6; m++) {
            x.march(0);
            due.is("marches()", x.marches(), m);
        }
        x.march(0);
        due.is("marches() after a refused seventh", x.marches(), 6);
        for (int m = 5; m >= 0; m--) {
            x.drop();
            due.is("marches() after a drop", x.marches(), m);
        }
        x.drop();
        due.is("marches() after a refused drop", x.marches(), 0);
    }

    private static void stepsFromNoneToMost() {
        due.promise("8: The number of operations done in one memory: over all marches and cells");
        due.is("no march", new MarchTester().steps(), 0);
        due.is("six marches without operations", Notation.build("^v^v^v").steps(), 0);
        due.is("one operation", Notation.build("^^^^^vr1").steps(), 5);
        due.is("a READ that goes wrong does not end the test", Notation.build("^w0r1r1r0 ^r1").steps(), 25);
        MarchTester x = Notation.build(LARGEST);
        due.is("the largest test", x.steps(), 120);
        x.op(0);
        x.march(0);
        due.is("the largest test after refused calls", x.steps(), 120);
    }
}
