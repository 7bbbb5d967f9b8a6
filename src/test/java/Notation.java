import java.util.function.IntConsumer;

/**
 * Builds a test from a text: '^' begins a march upwards, 'v' one downwards;
 * 'w0', 'w1', 'r0' and 'r1' are operations. Example: "^w0 ^r0w1 vr1w0".
 */
final class Notation {
    private Notation() {
    }

    static MarchTester build(String text) {
        MarchTester tester = new MarchTester();
        build(text, tester::march, tester::op);
        return tester;
    }

    static void build(String text, IntConsumer march, IntConsumer op) {
        for (int i = 0; i < text.length(); i++) {
            switch (text.charAt(i)) {
                case '^' -> march.accept(0);
                case 'v' -> march.accept(1);
                case 'w' -> op.accept(text.charAt(i + 1) - '0');
                case 'r' -> op.accept(2 + text.charAt(i + 1) - '0');
                default -> { }
            }
        }
    }
}
