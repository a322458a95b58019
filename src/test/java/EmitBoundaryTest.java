/** Promise 2: each of its sentences with a test of its own, on both sides of each boundary. */
public final class EmitBoundaryTest {
    private static final int MIN = Integer.MIN_VALUE;
    private static final int MAX = Integer.MAX_VALUE;
    private static final int BAD = DaeProcessor.BAD;
    private static final int FULL = DaeProcessor.FULL;
    private static final int[] NO_REGISTER = {MIN, MIN + 7, -8, -1, 8, 9, 15, 16, 256, 65536, MAX};
    private static final int[] ANY = {MIN, -65536, -9, -1, 0, 1, 7, 8, 9, 15, 16, 24, 65536, MAX};

    public static void main(String[] args) {
        full();
        fullComesFirst();
        opOutside();
        threeRegisters();
        twoRegisters();
        anyNumber();
        skip();
        repeat();
        noPart();
        newNumber();
        refusedAddsNothing();
        Check.finish();
    }

    private static void one(int op, int x, int y, int z, int want) {
        DaeProcessor p = new DaeProcessor(1, 1);
        Check.due("emit(" + op + ", " + x + ", " + y + ", " + z + ")", p.emit(op, x, y, z), want);
    }

    private static DaeProcessor ofLength(int length) {
        DaeProcessor p = new DaeProcessor(3, 4);
        for (int i = 0; i < length; i++) {
            Assembler.append(p, i, "ADDI 1 1 1");
        }
        return p;
    }

    private static void full() {
        Check.sentence("24 instructions are there: FULL.");
        for (int op = 0; op <= 10; op++) {
            DaeProcessor p = ofLength(23);
            Check.due("op " + op + " with 23 there", p.emit(op, 1, 1, 1), 24);
            Check.due("op " + op + " with 24 there", p.emit(op, 1, 1, 1), FULL);
            Check.due("op " + op + " with 24 there, again", p.emit(op, 1, 1, 1), FULL);
            Check.due("retract()", p.retract(), 23);
            Check.due("op " + op + " with 23 there again", p.emit(op, 1, 1, 1), 24);
        }
        DaeProcessor p = ofLength(24);
        p.emit(DaeProcessor.ADDI, 1, 1, 1);
        Check.due("run() of the 24", p.run(), 24);
        Check.due("register(1)", p.register(1), 24);
        p.clear();
        Check.due("after clear", p.emit(DaeProcessor.END, 0, 0, 0), 1);
    }

    private static void fullComesFirst() {
        Check.sentence("Tested in this order: FULL before each BAD");
        // op, x, y, z: each of them BAD where there is room
        int[][] bad = {{-1, 0, 0, 0}, {11, 0, 0, 0}, {MIN, 0, 0, 0}, {MAX, 0, 0, 0}, {0, 8, 0, 0}, {1, 0, 8, 0},
            {2, 0, 0, 8}, {3, -1, 0, 0}, {4, 0, 0, -1}, {5, 8, 0, 0}, {5, 0, 8, 0}, {6, 8, 0, 0}, {6, 0, -1, 0},
            {7, -1, 0, 0}, {7, 0, 8, 0}, {8, 8, 1, 0}, {8, 0, 0, 0}, {8, 0, 9, 0}, {9, 0, 0, 0}, {9, 7, 0, 0}};
        DaeProcessor fullOne = ofLength(24);
        DaeProcessor roomForOne = ofLength(23);
        for (int[] i : bad) {
            String what = "emit(" + i[0] + ", " + i[1] + ", " + i[2] + ", " + i[3] + ")";
            Check.due(what + " with 24 there", fullOne.emit(i[0], i[1], i[2], i[3]), FULL);
            Check.due(what + " with 23 there", roomForOne.emit(i[0], i[1], i[2], i[3]), BAD);
        }
        Check.due("the one place is still there", roomForOne.emit(10, 0, 0, 0), 24);
    }

    private static void opOutside() {
        Check.sentence("op outside 0..10: BAD.");
        for (int op : new int[] {MIN, -256, -2, -1, 11, 12, 16, 256, 65536, MAX}) {
            one(op, 1, 1, 1, BAD);
        }
        for (int op = 0; op <= 10; op++) {
            one(op, 1, 1, 1, 1);
        }
    }

    private static void threeRegisters() {
        Check.sentence("For ADD to LESS: x, y or z outside 0..7: BAD.");
        for (int op = DaeProcessor.ADD; op <= DaeProcessor.LESS; op++) {
            for (int r = 0; r < 8; r++) {
                one(op, r, 0, 7, 1);
                one(op, 0, r, 7, 1);
                one(op, 0, 7, r, 1);
            }
            for (int r : NO_REGISTER) {
                one(op, r, 0, 7, BAD);
                one(op, 0, r, 7, BAD);
                one(op, 0, 7, r, BAD);
                one(op, r, r, r, BAD);
            }
        }
    }

    private static void twoRegisters() {
        Check.sentence("For ADDI, LOAD, STORE: x or y outside 0..7: BAD");
        for (int op = DaeProcessor.ADDI; op <= DaeProcessor.STORE; op++) {
            for (int r = 0; r < 8; r++) {
                one(op, r, 7, 0, 1);
                one(op, 0, r, 0, 1);
            }
            for (int r : NO_REGISTER) {
                one(op, r, 7, 0, BAD);
                one(op, 0, r, 0, BAD);
                one(op, r, r, 0, BAD);
            }
        }
    }

    private static void anyNumber() {
        Check.sentence("(z is any int)");
        for (int z : ANY) {
            for (int op = DaeProcessor.ADDI; op <= DaeProcessor.STORE; op++) {
                one(op, 0, 7, z, 1);
            }
            DaeProcessor p = Assembler.with("ADDI 1 2 " + z, "STORE 1 2 " + z, "LOAD 3 2 " + z);
            Check.due("run() with " + z, p.run(), 3);
            Check.due("ADDI of " + z, p.register(1), z);
            Check.due("STORE at " + z, p.memory(z & 15), z);
            Check.due("LOAD at " + z, p.register(3), z);
        }
    }

    private static void skip() {
        Check.sentence("For SKIPZ: x outside 0..7 or y outside 1..8: BAD.");
        for (int x = 0; x < 8; x++) {
            for (int y = 1; y <= 8; y++) {
                one(DaeProcessor.SKIPZ, x, y, 0, 1);
            }
        }
        for (int x : NO_REGISTER) {
            one(DaeProcessor.SKIPZ, x, 1, 0, BAD);
            one(DaeProcessor.SKIPZ, x, 8, 0, BAD);
        }
        for (int y : new int[] {MIN, -8, -1, 0, 9, 10, 16, 256, MAX}) {
            one(DaeProcessor.SKIPZ, 0, y, 0, BAD);
            one(DaeProcessor.SKIPZ, 7, y, 0, BAD);
        }
    }

    private static void repeat() {
        Check.sentence("For REPEAT: x outside 1..6: BAD.");
        for (int x = 1; x <= 6; x++) {
            one(DaeProcessor.REPEAT, x, 0, 0, 1);
        }
        for (int x : new int[] {MIN, -6, -1, 0, 7, 8, 256, MAX}) {
            one(DaeProcessor.REPEAT, x, 0, 0, BAD);
        }
    }

    private static void noPart() {
        Check.sentence("Arguments that an instruction does not have play no part.");
        for (int any : ANY) {
            DaeProcessor p = new DaeProcessor(2, 2);
            Check.due("SKIPZ with z " + any, p.emit(DaeProcessor.SKIPZ, 2, 2, any), 1);
            Check.due("ADDI", p.emit(DaeProcessor.ADDI, 3, 3, 1), 2);
            Check.due("ADDI", p.emit(DaeProcessor.ADDI, 4, 4, 1), 3);
            Check.due("REPEAT with y " + any, p.emit(DaeProcessor.REPEAT, 2, any, 0), 4);
            Check.due("END with x " + any, p.emit(DaeProcessor.END, any, 0, 0), 5);
            Check.due("REPEAT with z " + any, p.emit(DaeProcessor.REPEAT, 3, 0, any), 6);
            Check.due("END with y " + any, p.emit(DaeProcessor.END, 0, any, 0), 7);
            Check.due("REPEAT with y and z " + any, p.emit(DaeProcessor.REPEAT, 4, any, any), 8);
            Check.due("END with z " + any, p.emit(DaeProcessor.END, 0, 0, any), 9);
            Check.due("REPEAT", p.emit(DaeProcessor.REPEAT, 5, 0, 0), 10);
            Check.due("END with all " + any, p.emit(DaeProcessor.END, any, any, any), 11);
            Check.due("addressSide() with " + any, p.addressSide(), 4);
            Check.due("run() with " + any, p.run(), 1 + 3 + 4 + 5 + 6);
            p.setRegister(2, 1);
            Check.due("run() without the skip, with " + any, p.run(), 3 + 3 + 4 + 5 + 6);
        }
    }

    private static void newNumber() {
        Check.sentence("Else answers the new number of instructions.");
        for (int op = 0; op <= 10; op++) {
            DaeProcessor p = new DaeProcessor(2, 2);
            for (int number = 1; number <= 24; number++) {
                Check.due("op " + op, p.emit(op, 1, 1, 1), number);
            }
        }
    }

    private static void refusedAddsNothing() {
        Check.sentence("BAD: nothing is added");
        DaeProcessor p = ofLength(2);
        for (int op = -1; op <= 11; op++) {
            Check.due("op " + op + " refused", p.emit(op == 10 ? 12 : op, 8, 0, 8), BAD);
        }
        Check.due("addressSide()", p.addressSide(), 0);
        Check.due("run()", p.run(), 2);
        Check.due("register(1)", p.register(1), 2);
        Check.due("retract()", p.retract(), 1);
        Check.due("emit()", p.emit(DaeProcessor.END, 0, 0, 0), 2);
    }
}
