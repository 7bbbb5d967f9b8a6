/**
 * "An object is used for at most 512 calls after it has been made": the 512th is answered
 * as the first, whichever method it is and whatever the 511 before were.
 */
public final class CallLimitTest {
    private static final int LIMIT = 512;
    private static final int BAD = -1;
    private static final int FULL = -2;

    private static final Due due = new Due();

    public static void main(String[] args) {
        due.promise("at most 512 calls");
        eachMethodAsTheLastCall();
        lastAfterChanges();
        lastAfterRefusals();
        lastAfterTurns();
        due.end();
    }

    /** After five calls the test is "^w0 vr0w1"; questions alone come between it and the last call. */
    private static MarchTester almostUsedUp() {
        MarchTester x = Notation.build("^w0 vr0w1");
        for (int call = 5; call < LIMIT - 1; call++) {
            ask(x, call);
        }
        return x;
    }

    private static void ask(MarchTester x, int call) {
        switch (call % 7) {
            case 0 -> due.is("marches()", x.marches(), 2);
            case 1 -> due.is("steps()", x.steps(), 15);
            case 2 -> due.is("sound()", x.sound(), true);
            case 3 -> due.is("finds(7, 1, 3)", x.finds(7, 1, 3), true);
            case 4 -> due.is("found(7)", x.found(7), 10);
            case 5 -> due.is("foundFrom(7, 3, 1)", x.foundFrom(7, 3, 1), 0);
            // Without march 0 kind 4 goes unseen where v is filled with 1 and changes to 0.
            default -> due.is("spare()", x.spare(), 0);
        }
    }

    private static void eachMethodAsTheLastCall() {
        due.is("march(0) last", almostUsedUp().march(0), 2);
        due.is("op(3) last", almostUsedUp().op(3), 3);
        due.is("drop() last", almostUsedUp().drop(), 2);
        due.is("turn(1) last", almostUsedUp().turn(1), true);
        due.is("turn(2) last", almostUsedUp().turn(2), false);
        due.is("marches() last", almostUsedUp().marches(), 2);
        due.is("sound() last", almostUsedUp().sound(), true);
        due.is("steps() last", almostUsedUp().steps(), 15);
        due.is("finds(7, 1, 3) last", almostUsedUp().finds(7, 1, 3), true);
        due.is("found(11) last", almostUsedUp().found(11), 20);
        due.is("covered() last", almostUsedUp().covered(), 1 << 1 | 1 << 11);
        due.is("foundFrom(1, 4, 4) last", almostUsedUp().foundFrom(1, 4, 4), 32);
        due.is("spare() last", almostUsedUp().spare(), 0);
    }

    private static void lastAfterChanges() {
        MarchTester x = new MarchTester();
        for (int call = 0; call < LIMIT - 4; call += 4) {
            due.is("march(0)", x.march(0), 0);
            due.is("op(0)", x.op(0), 1);
            due.is("drop() of the operation", x.drop(), 1);
            due.is("drop() of the march", x.drop(), 0);
        }
        due.is("march(1)", x.march(1), 0);
        due.is("op(2)", x.op(2), 1);
        due.is("op(3)", x.op(3), 2);
        due.is("covered() as the 512th call", x.covered(), (1 << 14) - 1);
    }

    private static void lastAfterRefusals() {
        MarchTester x = Notation.build("^^^^^vw0w0w0w0");
        for (int call = 10; call < LIMIT - 2; call += 2) {
            due.is("march(1)", x.march(1), FULL);
            due.is("op(1)", x.op(1), FULL);
        }
        due.is("march(2)", x.march(2), BAD);
        due.is("steps() as the 512th call", x.steps(), 20);
        MarchTester empty = new MarchTester();
        for (int call = 0; call < LIMIT - 2; call += 2) {
            due.is("drop()", empty.drop(), BAD);
            due.is("op(0)", empty.op(0), BAD);
        }
        due.is("march(1)", empty.march(1), 0);
        due.is("op(0) as the 512th call", empty.op(0), 1);
    }

    private static void lastAfterTurns() {
        MarchTester x = Notation.build("^w0 ^r0w1");
        for (int call = 5; call < LIMIT - 1; call++) {
            due.is("turn(1)", x.turn(1), true);
        }
        // 506 turns, an even number: upwards as at the beginning.
        due.is("finds(7, 3, 1) as the 512th call", x.finds(7, 3, 1), true);
    }
}
