/**
 * The boundary cases that the document names under "Terms": where the memory begins and ends,
 * when each kind of fault acts and when it does not, and what SOUND and FINDS ask of the 32
 * fillings. A method for each sentence.
 */
public final class FaultEdgesTest {
    /** Two marches that write the same leave every cell as written, under each of the kinds 4 to 9, and 10 and 13. */
    private static final String ALL_0 = "^w0 ^w0 ";
    private static final String ALL_1 = "^w1 ^w1 ";

    private static final Due due = new Due();

    public static void main(String[] args) {
        marchGoesThroughAllCells();
        marchDoesItsListAtEachCell();
        readExpectsTheBitNamed();
        alwaysHasItsBit();
        filledAllTheSame();
        staysWhenOtherIsWritten();
        changesToItsOtherBit();
        becomesZeroOrOne();
        otherChangeOfADoesNothing();
        writeOfTheSameBitIsNoChange();
        fillingIsNoWrite();
        heldAtTheBeginning();
        heldWhateverIsWritten();
        heldFromAWriteOfA();
        notHeldKeepsWhatItHas();
        soundWhateverBits();
        soundEveryRead();
        findsWhateverBits();
        findsBySomeRead();
        due.end();
    }

    private static void marchGoesThroughAllCells() {
        due.promise("Terms: a march goes through all cells, upwards (0, 1, .. 4) or downwards");
        pairs("^w0 ^r0w1", 7, 32, 0);
        pairs("^w0 vr0w1", 7, 0, 32);
        pairs("vw0 ^r0w1", 7, 32, 0);
        for (int v = 0; v < 5; v++) {
            due.is("^r1 at cell " + v, Notation.build("^r1").foundFrom(0, v, v), 32);
            due.is("vr1 at cell " + v, Notation.build("vr1").foundFrom(0, v, v), 32);
        }
    }

    private static void marchDoesItsListAtEachCell() {
        due.promise("Terms: does at each cell a list of at most four OPERATIONS");
        // Were all cells read before the first is written, no READ would see what the fault did.
        pairs("^w0 ^r0r0r0w1", 7, 32, 0);
        pairs("^w0 ^w1w0w0r0", 7, 0, 0);
        ones("^w0w0w0w1 ^r1r1r1r1", 2, 32);
        ones("^w1w1w1w0 ^r0r0r0r0", 3, 32);
    }

    private static void readExpectsTheBitNamed() {
        due.promise("Terms: 0 WRITE 0, 1 WRITE 1, 2 READ 0, 3 READ 1; a READ expects the bit named");
        for (int written = 0; written < 2; written++) {
            for (int expected = 0; expected < 2; expected++) {
                MarchTester x = new MarchTester();
                x.march(0);
                x.op(written);
                x.op(2 + expected);
                due.is("sound() of op " + written + ", op " + (2 + expected), x.sound(), written == expected);
            }
        }
    }

    private static void alwaysHasItsBit() {
        due.promise("Terms: 0, 1: v always has the bit 0 (1), whatever is written");
        ones("^w1r1", 0, 32);
        ones("^w1w1w1w1 ^w1 ^r1", 0, 32);
        ones("^w0r0 ^w1w0 ^r0", 0, 0);
        ones("^w0r0", 1, 32);
        ones("^w0w0w0w0 ^w0 ^r0", 1, 32);
        ones("^w1r1 ^w0w1 ^r1", 1, 0);
    }

    private static void filledAllTheSame() {
        due.promise("Terms: but for kind 0 (1) v has 0 (1) all the same");
        ones("^r1", 0, 32);
        ones("^r0", 1, 32);
        // No alarm where the four other cells are filled as expected, and v in either way.
        ones("^r0", 0, 30);
        ones("^r1", 1, 30);
    }

    private static void staysWhenOtherIsWritten() {
        due.promise("Terms: 2, 3: v, when it is 0 (1), stays so when 1 (0) is written");
        // Half of the fillings have v as named.
        ones("^w1r1", 2, 16);
        ones("^w0r0", 3, 16);
        ones("^w0r0", 2, 0);
        ones("^w1r1", 3, 0);
        // From its other bit v goes where it is told, and from then on stays.
        ones("^w1w0r0", 2, 0);
        ones("^w0w1r1", 3, 0);
        ones("^w1w0w1r1", 2, 32);
        ones("^w0w1w0r0", 3, 32);
        ones("^w0w1w1r1", 2, 32);
        ones("^w1w0w0r0", 3, 32);
        // v is filled with either bit at the beginning: 1 filling of 32 reads right.
        ones("^r0", 2, 31);
        ones("^r1", 2, 31);
        ones("^r0", 3, 31);
        ones("^r1", 3, 31);
    }

    private static void changesToItsOtherBit() {
        due.promise("Terms: 4, 5: v changes to its other bit");
        // From 0 to 1: a is written before v is read. From 1 to 0: v is written before a.
        pairs(ALL_0 + "^r0w1", 4, 32, 0);
        pairs(ALL_0 + "^w1 ^r1", 4, 0, 32);
        pairs(ALL_1 + "^r1w0", 5, 32, 0);
        pairs(ALL_1 + "^w0 ^r0", 5, 0, 32);
        // Changed twice, v has its bit again.
        pairs("^w0w1w0w1 ^r1", 4, 0, 0);
        pairs("^w1w0w1w0 ^r0", 5, 0, 0);
    }

    private static void becomesZeroOrOne() {
        due.promise("Terms: 6 .. 9: v becomes 0 (6, 8) or 1 (7, 9)");
        pairs(ALL_0 + "^w1 ^r1", 6, 0, 32);
        pairs(ALL_0 + "^r0w1", 7, 32, 0);
        pairs(ALL_1 + "^r1w0", 8, 32, 0);
        pairs(ALL_1 + "^w0 ^r0", 9, 0, 32);
        // v has that bit already.
        pairs(ALL_0 + "^r0w1", 6, 0, 0);
        pairs(ALL_0 + "^w1 ^r1", 7, 0, 0);
        pairs(ALL_1 + "^w0 ^r0", 8, 0, 0);
        pairs(ALL_1 + "^r1w0", 9, 0, 0);
        // Twice is as once, other than for the kinds 4 and 5.
        pairs("^w0w1w0w1 ^r1", 6, 0, 32);
        pairs("^w1w0w1w0 ^r0", 9, 0, 32);
    }

    private static void otherChangeOfADoesNothing() {
        due.promise("Terms: 4 .. 9: when a is 0 and becomes 1 (is 1 and becomes 0)");
        int[] onlyWhenAFalls = {5, 8, 9};
        for (int kind : onlyWhenAFalls) {
            pairs(ALL_0 + "^r0w1", kind, 0, 0);
            pairs(ALL_0 + "^w1 ^r1", kind, 0, 0);
        }
        int[] onlyWhenARises = {4, 6, 7};
        for (int kind : onlyWhenARises) {
            pairs(ALL_1 + "^r1w0", kind, 0, 0);
            pairs(ALL_1 + "^w0 ^r0", kind, 0, 0);
        }
    }

    private static void writeOfTheSameBitIsNoChange() {
        due.promise("Terms: 4 .. 9: becomes, by a write of another bit than it is");
        for (int kind = 4; kind < 10; kind++) {
            pairs("^w1 ^w1 ^r1", kind, 0, 0);
            pairs("^w0 ^w0 ^r0", kind, 0, 0);
        }
        // The first write changes a in half of the fillings.
        pairs("^w1 ^r1", 4, 0, 16);
        pairs("^w1 ^r1", 6, 0, 16);
        pairs("^w0 ^r0", 5, 0, 16);
        pairs("^w0 ^r0", 9, 0, 16);
    }

    private static void fillingIsNoWrite() {
        due.promise("Terms: 4 .. 9: by a write, and not by the filling");
        for (int kind = 4; kind < 10; kind++) {
            pairs("^r0", kind, 31, 31);
            pairs("^r1", kind, 31, 31);
        }
    }

    private static void heldAtTheBeginning() {
        due.promise("Terms: 10 .. 13: v is set so at the beginning, if a is as named then");
        // Right are the fillings of which, v being set, five cells have the bit expected.
        pairs("^r0", 10, 30, 30);
        pairs("^r0", 11, 32, 32);
        pairs("^r0", 12, 31, 31);
        pairs("^r0", 13, 31, 31);
        pairs("^r1", 10, 31, 31);
        pairs("^r1", 11, 31, 31);
        pairs("^r1", 12, 32, 32);
        pairs("^r1", 13, 30, 30);
    }

    private static void heldWhateverIsWritten() {
        due.promise("Terms: 10 .. 13: at any time at which a is 0 (1), v is 0 (1), whatever is written");
        pairs("^w0 ^r0", 11, 32, 32);
        pairs("^w1 ^r1", 12, 32, 32);
        pairs("^w0 ^w0w0w0r0", 11, 32, 32);
        pairs("^w1 ^w1w1w1r1", 12, 32, 32);
        // v is written and read in the same place of the march; a has its old bit there if it comes later.
        pairs("^w0 ^w1r1", 10, 0, 32);
        pairs("^w1 ^w0r0", 13, 0, 32);
        pairs("^w0 vw1r1", 10, 32, 0);
        pairs("^w1 vw0r0", 13, 32, 0);
    }

    private static void heldFromAWriteOfA() {
        due.promise("Terms: 10 .. 13: and after each write");
        // a is written before v is read, which had the other bit.
        pairs(ALL_1 + "^r1w0", 10, 32, 0);
        pairs(ALL_0 + "^r0w1", 13, 32, 0);
    }

    private static void notHeldKeepsWhatItHas() {
        due.promise("Terms: 10 .. 13: when a is not as named, v keeps what it has");
        pairs("^w1 ^w1 ^r1", 10, 0, 0);
        pairs("^w1 ^w1 ^r1", 11, 0, 0);
        pairs("^w0 ^w0 ^r0", 12, 0, 0);
        pairs("^w0 ^w0 ^r0", 13, 0, 0);
        // What was written in vain does not come back when a is as named no more.
        pairs("^w0 vw1 ^r1", 10, 32, 0);
        pairs("^w1 vw0 ^r0", 13, 32, 0);
        // What v was set to does not go either.
        pairs("^w0 ^w0 ^w1 ^r1", 10, 0, 32);
        pairs("^w1 ^w1 ^w0 ^r0", 13, 0, 32);
    }

    private static void soundWhateverBits() {
        due.promise("7: SOUND, whatever bits the cells have at the beginning");
        due.is("^r0, right from one filling", Notation.build("^r0").sound(), false);
        due.is("^r1, right from one filling", Notation.build("^r1").sound(), false);
        due.is("vr0w1 ^r1", Notation.build("vr0w1 ^r1").sound(), false);
        due.is("^r0r1, right from none", Notation.build("^r0r1").sound(), false);
        due.is("^w0 ^r0, right from all", Notation.build("^w0 ^r0").sound(), true);
        due.is("vw1 ^r1, right from all", Notation.build("vw1 ^r1").sound(), true);
    }

    private static void soundEveryRead() {
        due.promise("7: SOUND, every READ finds what it expects");
        due.is("no march", new MarchTester().sound(), true);
        due.is("no operation", Notation.build("^v^v^v").sound(), true);
        due.is("no READ", Notation.build("^w0w1w0w1 vw0").sound(), true);
        String longStart = "^w0w1r1w0 ^r0w1r1w1 vr1w0r0w0 ^r0w1r1w0 vr0r0w1r1 ";
        due.is("the last of many READs right", Notation.build(longStart + "vr1w0w1r1").sound(), true);
        due.is("the last of many READs wrong", Notation.build(longStart + "vr1w0w1r0").sound(), false);
        due.is("the first of many READs wrong", Notation.build("^w0w1r0w0 ^r0w1r1w1 vr1w0r0w0").sound(), false);
        due.is("one in the midst wrong", Notation.build("^w0w1r1w0 ^r0r1w1r1 vr1w0r0w0").sound(), false);
    }

    private static void findsWhateverBits() {
        due.promise("9: FINDS, whatever bits the cells have at the beginning");
        MarchTester x = Notation.build("^r1");
        due.is("^r1 finds(2, 0, 0), from 31 fillings", x.finds(2, 0, 0), false);
        due.is("^r1 finds(4, 4, 0), from 31 fillings", x.finds(4, 4, 0), false);
        due.is("^r1 finds(13, 0, 4), from 30 fillings", x.finds(13, 0, 4), false);
        due.is("^r1 finds(0, 4, 4), from all", x.finds(0, 4, 4), true);
        due.is("^r1 finds(12, 0, 4), from all", x.finds(12, 0, 4), true);
        x = Notation.build("^r0");
        due.is("^r0 finds(3, 0, 0), from 31 fillings", x.finds(3, 0, 0), false);
        due.is("^r0 finds(10, 4, 0), from 30 fillings", x.finds(10, 4, 0), false);
        due.is("^r0 finds(1, 0, 0), from all", x.finds(1, 0, 0), true);
        due.is("^r0 finds(11, 4, 0), from all", x.finds(11, 4, 0), true);
        x = Notation.build("^w0 ^r0");
        due.is("^w0 ^r0 finds(9, 0, 4), from 16 fillings", x.finds(9, 0, 4), false);
    }

    private static void findsBySomeRead() {
        due.promise("9: FINDS, some READ finds another bit than it expects");
        due.is("the last of the READs alone", Notation.build("^w0 ^r0 ^r0 ^w1r1").finds(2, 4, 4), true);
        due.is("the first of the READs alone", Notation.build("^w1r1 ^w0 vr0 ^r0 vr0").finds(0, 0, 0), true);
        due.is("none, there being none", Notation.build("^w0w1w0w1 vw0w1").finds(0, 0, 0), false);
        due.is("none, the test being empty", new MarchTester().finds(11, 0, 4), false);
        // From some fillings one READ, from the rest another.
        due.is("^r1w0r0 finds(3, 2, 2)", Notation.build("^r1w0r0").finds(3, 2, 2), true);
    }

    private static void ones(String test, int kind, int ways) {
        MarchTester x = Notation.build(test);
        for (int v = 0; v < 5; v++) {
            due.is(test + " foundFrom(" + kind + ", " + v + ")", x.foundFrom(kind, v, -1), ways);
            due.is(test + " finds(" + kind + ", " + v + ")", x.finds(kind, v, -1), ways == 32);
        }
    }

    /** From how many fillings a kind is found where a is less than v, and where it is greater. */
    private static void pairs(String test, int kind, int less, int greater) {
        MarchTester x = Notation.build(test);
        for (int v = 0; v < 5; v++) {
            for (int a = 0; a < 5; a++) {
                if (a != v) {
                    int ways = a < v ? less : greater;
                    String fault = "(" + kind + ", " + v + ", " + a + ")";
                    due.is(test + " foundFrom" + fault, x.foundFrom(kind, v, a), ways);
                    due.is(test + " finds" + fault, x.finds(kind, v, a), ways == 32);
                }
            }
        }
    }
}
