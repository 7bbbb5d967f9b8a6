import java.util.List;
import java.util.function.Consumer;

/**
 * Refused calls and questions change nothing, each by itself. The test held is always "^w0 vr0w1", at most with
 * marches that do nothing or READs said again, and what it answers is worked out by hand.
 */
public final class NoChangeTest {
    private static final int BAD = -1;
    private static final int FULL = -2;

    /**
     * Every READ expects 0, after all cells were written 0. Kind 1 is 1 there always, and kind 11 is,
     * a being 0. Kinds 4, 7 and 13 make v 1 when a is written 1, which is read where a is greater than
     * v. The rest make v 0, or act in the fillings alone that have a 1 in v (3) or in a (5, 8, 9).
     */
    private static final int[] FOUND = {0, 5, 0, 0, 10, 0, 0, 10, 0, 0, 0, 20, 0, 10};

    private static final Due due = new Due();

    public static void main(String[] args) {
        refusedOfTwoMarches();
        refusedOfSixMarches();
        refusedOfFourOperations();
        refusedOfTheEmptyTest();
        questions();
        due.end();
    }

    private static void refusedOfTwoMarches() {
        due.promise("2, 3, 5: what is BAD or false changes nothing");
        MarchTester x = Notation.build("^w0 vr0w1");
        answersAsBuilt(x, 2, 15, 0);
        due.is("march(-1)", x.march(-1), BAD);
        answersAsBuilt(x, 2, 15, 0);
        due.is("march(2)", x.march(2), BAD);
        answersAsBuilt(x, 2, 15, 0);
        due.is("op(-1)", x.op(-1), BAD);
        answersAsBuilt(x, 2, 15, 0);
        due.is("op(4)", x.op(4), BAD);
        answersAsBuilt(x, 2, 15, 0);
        due.is("turn(-1)", x.turn(-1), false);
        answersAsBuilt(x, 2, 15, 0);
        due.is("turn(2)", x.turn(2), false);
        answersAsBuilt(x, 2, 15, 0);
        due.is("op(2) after all", x.op(2), 3);
    }

    private static void refusedOfSixMarches() {
        due.promise("2, 14: a seventh march changes nothing");
        MarchTester x = Notation.build("^w0 ^ ^ ^ ^ vr0w1");
        answersAsBuilt(x, 6, 15, 30);
        due.is("march(0)", x.march(0), FULL);
        answersAsBuilt(x, 6, 15, 30);
        due.is("march(1)", x.march(1), FULL);
        answersAsBuilt(x, 6, 15, 30);
        due.is("march(2)", x.march(2), BAD);
        answersAsBuilt(x, 6, 15, 30);
        due.is("turn(6)", x.turn(6), false);
        answersAsBuilt(x, 6, 15, 30);
        due.is("op(2) after all", x.op(2), 3);
    }

    private static void refusedOfFourOperations() {
        due.promise("3: a fifth operation changes nothing");
        MarchTester x = Notation.build("^w0 vr0r0r0w1");
        answersAsBuilt(x, 2, 25, 0);
        for (int op = 0; op < 4; op++) {
            due.is("op(" + op + ")", x.op(op), FULL);
            answersAsBuilt(x, 2, 25, 0);
        }
        due.is("op(4)", x.op(4), BAD);
        answersAsBuilt(x, 2, 25, 0);
        due.is("march(0) after all", x.march(0), 2);
        due.is("op(0) after all", x.op(0), 1);
    }

    private static void refusedOfTheEmptyTest() {
        due.promise("1, 3, 4, 5: what is BAD or false leaves the empty test empty");
        MarchTester x = new MarchTester();
        due.is("drop()", x.drop(), BAD);
        due.is("op(0)", x.op(0), BAD);
        due.is("op(4)", x.op(4), BAD);
        due.is("turn(0)", x.turn(0), false);
        due.is("march(2)", x.march(2), BAD);
        due.is("marches()", x.marches(), 0);
        due.is("steps()", x.steps(), 0);
        due.is("covered()", x.covered(), 0);
        due.is("spare()", x.spare(), 0);
        due.is("sound()", x.sound(), true);
        Notation.build("^w0 vr0w1", x::march, x::op);
        answersAsBuilt(x, 2, 15, 0);
    }

    private static void questions() {
        due.promise("6 to 13: a question changes nothing");
        List<Consumer<MarchTester>> questions = List.of(
            MarchTester::marches, MarchTester::sound, MarchTester::steps, MarchTester::covered, MarchTester::spare,
            x -> x.finds(5, 0, 4), x -> x.finds(5, 4, 4), x -> x.found(13), x -> x.found(14),
            x -> x.foundFrom(1, 4, -1), x -> x.foundFrom(1, 5, -1));
        for (Consumer<MarchTester> question : questions) {
            MarchTester x = Notation.build("^w0 vr0w1");
            // Asked after one call and after another one, so that a change and its undoing are told apart.
            question.accept(x);
            answersAsBuilt(x, 2, 15, 0);
            question.accept(x);
            answersAsBuilt(x, 2, 15, 0);
            due.is("op(2) after a question", x.op(2), 3);
            due.is("march(1) after a question", x.march(1), 2);
        }
    }

    private static void answersAsBuilt(MarchTester x, int marches, int steps, int spare) {
        due.is("marches()", x.marches(), marches);
        due.is("steps()", x.steps(), steps);
        due.is("sound()", x.sound(), true);
        due.is("covered()", x.covered(), 1 << 1 | 1 << 11);
        // Without its READs nothing is found; without ^w0, kind 4 turns a v filled with 1 into the 0 expected.
        due.is("spare()", x.spare(), spare);
        for (int kind = 0; kind < 14; kind++) {
            due.is("found(" + kind + ")", x.found(kind), FOUND[kind]);
        }
        // The last march goes downwards, and comes to cell 4 first.
        due.is("finds(7, 0, 4)", x.finds(7, 0, 4), true);
        due.is("finds(7, 4, 0)", x.finds(7, 4, 0), false);
        // The first march goes upwards: what a does when it becomes 0 is written over where a is less than v.
        due.is("foundFrom(5, 0, 4)", x.foundFrom(5, 0, 4), 16);
        due.is("foundFrom(5, 4, 0)", x.foundFrom(5, 4, 0), 0);
        due.is("foundFrom(3, 2, 2)", x.foundFrom(3, 2, 2), 16);
    }
}
