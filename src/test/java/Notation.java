/**
 * Builds a test from a text: '^' begins a march upwards, 'v' one downwards;
 * 'w0', 'w1', 'r0' and 'r1' are operations. Example: "^w0 ^r0w1 vr1w0".
 */
final class Notation {
    private Notation() {
    }

    static MarchTester build(String text) {
        MarchTester tester = new MarchTester();
        for (int i = 0; i < text.length(); i++) {
            switch (text.charAt(i)) {
                case '^' -> tester.march(0);
                case 'v' -> tester.march(1);
                case 'w' -> tester.op(text.charAt(i + 1) - '0');
                case 'r' -> tester.op(2 + text.charAt(i + 1) - '0');
                default -> { }
            }
        }
        return tester;
    }
}
