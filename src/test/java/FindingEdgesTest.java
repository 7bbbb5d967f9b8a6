import java.util.List;
import java.util.function.Consumer;

/**
 * The boundary cases that the document names for what a test finds: promises 9 to 14.
 * A method for each sentence.
 */
public final class FindingEdgesTest {
    private static final int BAD = -1;
    private static final int EVERY_KIND = (1 << 14) - 1;

    /** Wrong in every memory, so that a fault is found if only there is such a fault. */
    private static final String ALWAYS_WRONG = "^r0r1";

    private static final Due due = new Due();

    public static void main(String[] args) {
        everyFaultThereIs();
        aDoesNotMatterForKindsToThree();
        noSuchKind();
        noSuchV();
        noSuchA();
        aIsAnotherCell();
        wrongInputsInTheEmptyTest();
        foundBadKind();
        foundOverAllFaults();
        foundNone();
        coveredAllOfWhoseFaults();
        coveredBitForEachKind();
        coveredNoneAndEvery();
        foundFromNoneToThirtyTwo();
        foundFromCountsTwoWays();
        spareOfTheEmptyTest();
        spareBitForEachMarch();
        spareAnyOneLeftOut();
        spareEveryFaultStillFound();
        spareOnlyWhatIsFound();
        spareOfTheOnlyMarch();
        notSoundFindsEveryFault();
        notSoundIsNotAsked();
        notSoundIsWhatIsLeft();
        questionsChangeNothing();
        due.end();
    }

    private static void everyFaultThereIs() {
        due.promise("9: kinds 0 .. 13, cells 0 .. 4");
        MarchTester x = Notation.build(ALWAYS_WRONG);
        for (int kind = 0; kind < 14; kind++) {
            for (int v = 0; v < 5; v++) {
                for (int a = 0; a < 5; a++) {
                    if (kind < 4 ? a == 0 : a != v) {
                        due.is("finds" + fault(kind, v, a), x.finds(kind, v, a), true);
                        due.is("foundFrom" + fault(kind, v, a), x.foundFrom(kind, v, a), 32);
                    }
                }
            }
        }
    }

    private static void aDoesNotMatterForKindsToThree() {
        due.promise("9: a does not matter for kinds 0 to 3");
        String[] finding = {"^w1r1", "^w0r0", "^w0w1r1", "^w1w0r0"};
        for (int kind = 0; kind < 4; kind++) {
            MarchTester finds = Notation.build(finding[kind]);
            MarchTester findsNot = Notation.build(finding[kind ^ 1]);
            for (int a : Outside.of(0, 4)) {
                due.is(finding[kind] + " finds" + fault(kind, 4, a), finds.finds(kind, 4, a), true);
                due.is(finding[kind] + " foundFrom" + fault(kind, 4, a), finds.foundFrom(kind, 4, a), 32);
                due.is(finding[kind ^ 1] + " finds" + fault(kind, 0, a), findsNot.finds(kind, 0, a), false);
                due.is(finding[kind ^ 1] + " foundFrom" + fault(kind, 0, a), findsNot.foundFrom(kind, 0, a), 0);
            }
            for (int v = 0; v < 5; v++) {
                for (int a = 0; a < 5; a++) {
                    due.is(finding[kind] + " finds" + fault(kind, v, a), finds.finds(kind, v, a), true);
                    due.is(finding[kind] + " foundFrom" + fault(kind, v, a), finds.foundFrom(kind, v, a), 32);
                }
            }
        }
    }

    private static void noSuchKind() {
        due.promise("9, 12: kind is not 0 .. 13");
        MarchTester x = Notation.build(ALWAYS_WRONG);
        for (int kind : Outside.of(0, 13)) {
            due.is("finds" + fault(kind, 0, 1), x.finds(kind, 0, 1), false);
            due.is("finds" + fault(kind, 4, 4), x.finds(kind, 4, 4), false);
            due.is("foundFrom" + fault(kind, 0, 1), x.foundFrom(kind, 0, 1), BAD);
            due.is("foundFrom" + fault(kind, 4, 4), x.foundFrom(kind, 4, 4), BAD);
        }
    }

    private static void noSuchV() {
        due.promise("9, 12: v is not 0 .. 4");
        for (int kind = 0; kind < 14; kind++) {
            MarchTester x = Notation.build(ALWAYS_WRONG);
            for (int v : Outside.of(0, 4)) {
                due.is("finds" + fault(kind, v, 0), x.finds(kind, v, 0), false);
                due.is("finds" + fault(kind, v, v), x.finds(kind, v, v), false);
                due.is("foundFrom" + fault(kind, v, 4), x.foundFrom(kind, v, 4), BAD);
                due.is("foundFrom" + fault(kind, v, v), x.foundFrom(kind, v, v), BAD);
            }
        }
    }

    private static void noSuchA() {
        due.promise("9, 12: for kinds from 4 on, a is not 0 .. 4");
        for (int kind = 4; kind < 14; kind++) {
            MarchTester x = Notation.build(ALWAYS_WRONG);
            for (int a : Outside.of(0, 4)) {
                due.is("finds" + fault(kind, 0, a), x.finds(kind, 0, a), false);
                due.is("finds" + fault(kind, 4, a), x.finds(kind, 4, a), false);
                due.is("foundFrom" + fault(kind, 0, a), x.foundFrom(kind, 0, a), BAD);
                due.is("foundFrom" + fault(kind, 4, a), x.foundFrom(kind, 4, a), BAD);
            }
        }
    }

    private static void aIsAnotherCell() {
        due.promise("9, 12: for kinds from 4 on, a = v");
        MarchTester x = Notation.build(ALWAYS_WRONG);
        for (int kind = 4; kind < 14; kind++) {
            for (int v = 0; v < 5; v++) {
                due.is("finds" + fault(kind, v, v), x.finds(kind, v, v), false);
                due.is("foundFrom" + fault(kind, v, v), x.foundFrom(kind, v, v), BAD);
            }
        }
    }

    private static void wrongInputsInTheEmptyTest() {
        due.promise("9, 12: wrong inputs before there is a march");
        MarchTester x = new MarchTester();
        due.is("finds(-1, 0, 1)", x.finds(-1, 0, 1), false);
        due.is("foundFrom(-1, 0, 1)", x.foundFrom(-1, 0, 1), BAD);
        due.is("foundFrom(14, 0, 1)", x.foundFrom(14, 0, 1), BAD);
        due.is("foundFrom(0, 5, 1)", x.foundFrom(0, 5, 1), BAD);
        due.is("foundFrom(4, 1, 1)", x.foundFrom(4, 1, 1), BAD);
        due.is("foundFrom(13, 4, 5)", x.foundFrom(13, 4, 5), BAD);
        due.is("foundFrom(3, 4, 5)", x.foundFrom(3, 4, 5), 0);
        due.is("found(14)", x.found(14), BAD);
        due.is("found(13)", x.found(13), 0);
    }

    private static void foundBadKind() {
        due.promise("10: BAD when kind is not 0 .. 13");
        MarchTester x = Notation.build(ALWAYS_WRONG);
        for (int kind : Outside.of(0, 13)) {
            due.is("found(" + kind + ")", x.found(kind), BAD);
        }
    }

    private static void foundOverAllFaults() {
        due.promise("10: over all v and (for kinds from 4 on) all a");
        MarchTester x = Notation.build(ALWAYS_WRONG);
        for (int kind = 0; kind < 14; kind++) {
            due.is("found(" + kind + ")", x.found(kind), kind < 4 ? 5 : 20);
        }
        // Of 20 pairs, ten have a less than v.
        x = Notation.build("^w0 ^w0 ^r0w1");
        due.is("upwards found(4)", x.found(4), 10);
        due.is("upwards found(7)", x.found(7), 10);
        due.is("upwards found(13)", x.found(13), 10);
        due.is("upwards found(11)", x.found(11), 20);
        due.is("upwards found(1)", x.found(1), 5);
        x = Notation.build("^w1 ^w1 vr1w0");
        due.is("downwards found(5)", x.found(5), 10);
        due.is("downwards found(8)", x.found(8), 10);
        due.is("downwards found(10)", x.found(10), 10);
        due.is("downwards found(12)", x.found(12), 20);
        due.is("downwards found(0)", x.found(0), 5);
    }

    private static void foundNone() {
        due.promise("10: that the test finds, and not from some fillings alone");
        MarchTester x = Notation.build("^r1");
        int[] want = {5, 0, 0, 0, 0, 0, 0, 0, 0, 0, 0, 0, 20, 0};
        for (int kind = 0; kind < 14; kind++) {
            due.is("^r1 found(" + kind + ")", x.found(kind), want[kind]);
        }
        x = Notation.build("^w0w1 vw0w1");
        for (int kind = 0; kind < 14; kind++) {
            due.is("without a READ found(" + kind + ")", x.found(kind), 0);
        }
    }

    private static void coveredAllOfWhoseFaults() {
        due.promise("11: The kinds all of whose faults the test finds");
        // Kinds 4, 7 and 13 are found where a comes before v, in ten of twenty faults.
        due.is("upwards, a half", Notation.build("^w0 ^w0 ^r0w1").covered(), 1 << 1 | 1 << 11);
        due.is("downwards, the other half", Notation.build("^w0 ^w0 vr0w1").covered(), 1 << 1 | 1 << 11);
        due.is("^r1, all from all fillings", Notation.build("^r1").covered(), 1 << 0 | 1 << 12);
        due.is("^r0, all from all fillings", Notation.build("^r0").covered(), 1 << 1 | 1 << 11);
    }

    private static void coveredBitForEachKind() {
        due.promise("11: bit k for kind k");
        // Read where the cell is written, a cell shows kind 0 (1) alone wherever the others are.
        due.is("^w1r1", Notation.build("^w1r1").covered(), 1 << 0);
        due.is("^w0r0", Notation.build("^w0r0").covered(), 1 << 1);
        // READ 0 shows a v that is wrongly 1, both ways round: kinds 5 and 9 one way alone.
        due.is("^w0 ^r0w1 ^w0 vr0w1", Notation.build("^w0 ^r0w1 ^w0 vr0w1").covered(),
            1 << 1 | 1 << 3 | 1 << 4 | 1 << 7 | 1 << 11 | 1 << 13);
        // The same with 0 and 1 exchanged.
        due.is("^w1 ^r1w0 ^w1 vr1w0", Notation.build("^w1 ^r1w0 ^w1 vr1w0").covered(),
            1 << 0 | 1 << 2 | 1 << 5 | 1 << 8 | 1 << 10 | 1 << 12);
    }

    private static void coveredNoneAndEvery() {
        due.promise("11: from no kind to every kind");
        due.is("no march", new MarchTester().covered(), 0);
        due.is("no operation", Notation.build("^v^v^v").covered(), 0);
        due.is("no READ", Notation.build("^w0w1 vw1w0").covered(), 0);
        due.is("a test that is never right", Notation.build(ALWAYS_WRONG).covered(), EVERY_KIND);
        due.is("a sound test", Notation.build("^w0 ^r0w1 ^r1w0 vr0w1 vr1w0 ^r0").covered(), EVERY_KIND);
    }

    private static void foundFromNoneToThirtyTwo() {
        due.promise("12: For how many of the 32 ways");
        due.is("no march", new MarchTester().foundFrom(0, 0, 0), 0);
        due.is("no READ", Notation.build("^w1").foundFrom(0, 4, 4), 0);
        due.is("from no filling", Notation.build("^w0 ^r0").foundFrom(0, 4, 4), 0);
        due.is("from half", Notation.build("^w0 ^r0").foundFrom(3, 4, 4), 16);
        due.is("from all but one", Notation.build("^r0").foundFrom(3, 4, 4), 31);
        due.is("from all", Notation.build("^w0 ^r0").foundFrom(1, 4, 4), 32);
        // Each filling counts once, however many READs go wrong.
        due.is("with many READs wrong", Notation.build("^r0r1r0r1 vr1r0r1r0").foundFrom(9, 0, 4), 32);
    }

    private static void foundFromCountsTwoWays() {
        due.promise("12: the bit with which v is filled does not matter .. but counts as two ways all the same");
        for (int v = 0; v < 5; v++) {
            int a = 4 - v == v ? 0 : 4 - v;
            due.is("^r0 foundFrom" + fault(0, v, a), Notation.build("^r0").foundFrom(0, v, a), 30);
            due.is("^r1 foundFrom" + fault(1, v, a), Notation.build("^r1").foundFrom(1, v, a), 30);
            due.is("^r1 foundFrom" + fault(0, v, a), Notation.build("^r1").foundFrom(0, v, a), 32);
            due.is("^r0 foundFrom" + fault(10, v, a), Notation.build("^r0").foundFrom(10, v, a), 30);
            due.is("^r1 foundFrom" + fault(13, v, a), Notation.build("^r1").foundFrom(13, v, a), 30);
            due.is("^r1 foundFrom" + fault(12, v, a), Notation.build("^r1").foundFrom(12, v, a), 32);
            // In the only filling that reads right a is not as named, so v is not set.
            due.is("^r1 foundFrom" + fault(10, v, a), Notation.build("^r1").foundFrom(10, v, a), 31);
            due.is("^r0 foundFrom" + fault(13, v, a), Notation.build("^r0").foundFrom(13, v, a), 31);
        }
    }

    private static void spareOfTheEmptyTest() {
        due.promise("13: no march");
        MarchTester x = new MarchTester();
        due.is("spare()", x.spare(), 0);
        x.march(0);
        due.is("spare() of a march without operations", x.spare(), 1);
        x.drop();
        due.is("spare() after it is dropped", x.spare(), 0);
    }

    private static void spareBitForEachMarch() {
        due.promise("13: bit m for march m");
        due.is("six marches without operations", Notation.build("^v^v^v").spare(), 63);
        for (int needed = 0; needed < 6; needed++) {
            // The only march with a READ finds kind 1; the others do nothing.
            StringBuilder test = new StringBuilder("^^^^^^");
            test.insert(needed + 1, "w0r0");
            due.is(test.toString(), Notation.build(test.toString()).spare(), 63 - (1 << needed));
        }
        // Kind 2 needs both marches that do something: from ^r1 alone it is found from 31 fillings.
        due.is("^ ^w0w1 ^r1", Notation.build("^ ^w0w1 ^r1").spare(), 1);
        due.is("^w0w1 ^ ^r1", Notation.build("^w0w1 ^ ^r1").spare(), 2);
        due.is("^w0w1 ^r1 ^", Notation.build("^w0w1 ^r1 ^").spare(), 4);
        due.is("^w0w1 ^ ^ ^ ^ ^r1", Notation.build("^w0w1 ^ ^ ^ ^ ^r1").spare(), 30);
        due.is("^ ^ ^ ^ ^w0w1 ^r1", Notation.build("^ ^ ^ ^ ^w0w1 ^r1").spare(), 15);
    }

    private static void spareAnyOneLeftOut() {
        due.promise("13: any one of them left out");
        // Without all of them that are spare, no READ would be left.
        due.is("^w0w1 ^r1 vr1", Notation.build("^w0w1 ^r1 vr1").spare(), 6);
        due.is("^w0w1 ^r1 vr1 ^r1 vr1 ^r1", Notation.build("^w0w1 ^r1 vr1 ^r1 vr1 ^r1").spare(), 62);
        // Equal marches that need each other: kind 11, where a is greater than v, is found by a march alone
        // only if a is 0 before it, and nothing but another march makes it so from every filling.
        due.is("^w1w0r0 ^w1w0r0", Notation.build("^w1w0r0 ^w1w0r0").spare(), 0);
    }

    private static void spareEveryFaultStillFound() {
        due.promise("13: every fault that the test finds would still be found");
        due.is("^w0w1 ^r1", Notation.build("^w0w1 ^r1").spare(), 0);
        // The march downwards finds kind 7 where a is greater than v, the one upwards where it is less.
        due.is("^w0 ^w0 ^r0w1 ^w0 ^w0 vr0w1", Notation.build("^w0 ^w0 ^r0w1 ^w0 ^w0 vr0w1").spare() & 1 << 2, 0);
        due.is("^w0 ^w0 ^r0w1 ^w0 ^w0 vr0w1", Notation.build("^w0 ^w0 ^r0w1 ^w0 ^w0 vr0w1").spare() & 1 << 5, 0);
        due.is("^w0w1r1 vw1w0r0", Notation.build("^w0w1r1 vw1w0r0").spare(), 0);
        // Kinds 0, 2 and 12 are found. Without march 0 kind 2 alone is lost; without march 2 kind 12 where
        // a is greater than v; without march 1 none, as march 0 leaves every a with 1 before march 2 reads.
        due.is("^w0w1r1 ^w1 ^r1", Notation.build("^w0w1r1 ^w1 ^r1").spare(), 2);
        due.is("^w1w0r0 ^w0 ^r0", Notation.build("^w1w0r0 ^w0 ^r0").spare(), 2);
        // Without march 2 the kinds 4, 7 and 13 are lost, which are found where a is less than v alone.
        due.is("^w0 ^r0 ^r0w1", Notation.build("^w0 ^r0 ^r0w1").spare(), 3);
    }

    private static void spareOnlyWhatIsFound() {
        due.promise("13: every fault that the test finds, and no other");
        due.is("no fault is found", Notation.build("^w0 vw1w0 ^w1").spare(), 7);
        // Without march 0 kinds 1 and 11 are found from all fillings still, and they are all that is found;
        // that kind 0 is found then from 30 fillings, and from none before, does not count.
        due.is("^w0 ^r0", Notation.build("^w0 ^r0").spare(), 1);
        due.is("^w1 ^r1", Notation.build("^w1 ^r1").spare(), 1);
        due.is("^w0 ^w0 ^r0", Notation.build("^w0 ^w0 ^r0").spare(), 3);
        // Kind 9, where a is greater than v, is found from half of the fillings, and from none without march 1:
        // no loss, for it was not found.
        MarchTester x = Notation.build("^w0 ^r0 ^w0r0");
        due.is("^w0 ^r0 ^w0r0 foundFrom(9, 0, 4)", x.foundFrom(9, 0, 4), 16);
        due.is("^w0 ^w0r0 foundFrom(9, 0, 4)", Notation.build("^w0 ^w0r0").foundFrom(9, 0, 4), 0);
        due.is("^w0 ^r0 ^w0r0", x.spare(), 7);
    }

    private static void spareOfTheOnlyMarch() {
        due.promise("13: the empty test, when the only march is left out");
        due.is("^w0r0", Notation.build("^w0r0").spare(), 0);
        due.is("^w0", Notation.build("^w0").spare(), 1);
        due.is("^r1", Notation.build("^r1").spare(), 0);
        due.is(ALWAYS_WRONG, Notation.build(ALWAYS_WRONG).spare(), 0);
    }

    private static void notSoundFindsEveryFault() {
        due.promise("14: so a test may find every fault because it is not sound");
        String[] tests = {ALWAYS_WRONG, "^w0r1", "vw1r0", "^w0 ^r1", "^w0 ^r0w1 ^ ^ ^ vr0"};
        for (String test : tests) {
            MarchTester x = Notation.build(test);
            due.is(test + " sound()", x.sound(), false);
            due.is(test + " covered()", x.covered(), EVERY_KIND);
            for (int kind = 0; kind < 14; kind++) {
                due.is(test + " found(" + kind + ")", x.found(kind), kind < 4 ? 5 : 20);
                due.is(test + " finds" + fault(kind, 4, 0), x.finds(kind, 4, 0), true);
                due.is(test + " foundFrom" + fault(kind, 0, 4), x.foundFrom(kind, 0, 4), 32);
            }
        }
    }

    private static void notSoundIsNotAsked() {
        due.promise("14: finds, found, covered, foundFrom and spare do not ask whether a test is sound");
        // ^r1 is not sound, and yet finds neither kind 2 nor kind 10: from one filling no READ goes wrong.
        MarchTester x = Notation.build("^r1");
        due.is("sound()", x.sound(), false);
        due.is("finds(2, 1, 1)", x.finds(2, 1, 1), false);
        due.is("finds(0, 1, 1)", x.finds(0, 1, 1), true);
        due.is("found(10)", x.found(10), 0);
        due.is("found(12)", x.found(12), 20);
        due.is("covered()", x.covered(), 1 << 0 | 1 << 12);
        due.is("foundFrom(2, 1, 1)", x.foundFrom(2, 1, 1), 31);
        due.is("spare()", x.spare(), 0);
        due.is("spare() of ^r1 ^r1", Notation.build("^r1 ^r1").spare(), 3);
    }

    private static void notSoundIsWhatIsLeft() {
        due.promise("14: what is left in spare too");
        // Without march 1, READ 1 finds the 0 of march 0 in the cells other than v, whatever the fault.
        due.is("^w0 ^w1 ^r1", Notation.build("^w0 ^w1 ^r1").spare(), 2);
        due.is("^w1 ^w0 ^r0", Notation.build("^w1 ^w0 ^r0").spare(), 2);
        // Not sound whole, and not sound with one left out: two marches that are always wrong.
        due.is("^r0r1 vr1r0", Notation.build("^r0r1 vr1r0").spare(), 3);
        due.is("^r0r1 ^w0", Notation.build("^r0r1 ^w0").spare(), 2);
        due.is("^w0 ^r0r1", Notation.build("^w0 ^r0r1").spare(), 1);
        // Not sound whole, sound with march 1 left out: what was found for not being sound is lost.
        due.is("^w0 ^w1 ^r0", Notation.build("^w0 ^w1 ^r0").spare() & 1 << 1, 0);
    }

    private static void questionsChangeNothing() {
        due.promise("9 to 13: a question changes nothing");
        List<Consumer<MarchTester>> questions = List.of(
            MarchTester::marches, MarchTester::steps, MarchTester::sound, MarchTester::covered, MarchTester::spare,
            x -> x.found(4), x -> x.found(14),
            x -> x.finds(4, 3, 2), x -> x.finds(14, 9, 9),
            x -> x.foundFrom(13, 0, 4), x -> x.foundFrom(-1, 0, 4));
        for (Consumer<MarchTester> question : questions) {
            MarchTester x = Notation.build(Answers.PROBE);
            question.accept(x);
            Answers.areOf(due, x, Answers.PROBE);
            due.is("op(0) after a question", x.op(0), 3);
            due.is("march(0) after a question", x.march(0), -2);
        }
    }

    private static String fault(int kind, int v, int a) {
        return "(" + kind + ", " + v + ", " + a + ")";
    }
}
