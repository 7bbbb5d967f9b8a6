/** Holds what an object of the class answers against what the plain reference answers. */
final class Answers {
    private interface OfFault {
        void ask(int kind, int v, int a, String fault);
    }

    /**
     * A test of six marches whose answers, taken together, tell any one operation in it, and the
     * direction of any march but the fourth (which only reads, so that its direction never shows).
     */
    static final String PROBE = "vw1 vr1w0w1 ^w0 vr0 ^w1r1 vr1w0";

    private Answers() {
    }

    /** Whether x holds the test of the notation: 239 calls, so that an object may have had 273 before. */
    static void areOf(Due due, MarchTester x, String text) {
        PlainTester plain = new PlainTester();
        Notation.build(text, plain::march, plain::op);
        areBriefOf(due, x, plain);
        areOfEachFault(due, x, plain);
    }

    static void areBriefOf(Due due, MarchTester x, PlainTester plain) {
        due.is("marches()", x.marches(), plain.marches());
        due.is("steps()", x.steps(), plain.steps());
        due.is("sound()", x.sound(), plain.sound());
        due.is("covered()", x.covered(), plain.covered());
        due.is("spare()", x.spare(), plain.spare());
    }

    /** As areOf, and finds of each fault too: 459 calls. */
    static void areAllOf(Due due, MarchTester x, PlainTester plain) {
        areBriefOf(due, x, plain);
        areOfEachFault(due, x, plain);
        eachFault((kind, v, a, fault) ->
            due.is("finds" + fault, x.finds(kind, v, a), plain.finds(kind, v, a)));
    }

    private static void areOfEachFault(Due due, MarchTester x, PlainTester plain) {
        for (int kind = 0; kind < 14; kind++) {
            due.is("found(" + kind + ")", x.found(kind), plain.found(kind));
        }
        eachFault((kind, v, a, fault) ->
            due.is("foundFrom" + fault, x.foundFrom(kind, v, a), plain.foundFrom(kind, v, a)));
    }

    private static void eachFault(OfFault question) {
        for (int kind = 0; kind < 14; kind++) {
            for (int v = 0; v < 5; v++) {
                for (int a = 0; a < (kind < 4 ? 1 : 5); a++) {
                    if (kind < 4 || a != v) {
                        question.ask(kind, v, a, "(" + kind + ", " + v + ", " + a + ")");
                    }
                }
            }
        }
    }
}
