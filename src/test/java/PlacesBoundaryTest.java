/** Promises 3, 4, 5, 7, 8 and 10: each boundary sentence with a test of its own, on both sides. */
public final class PlacesBoundaryTest {
    private static final int MIN = Integer.MIN_VALUE;
    private static final int MAX = Integer.MAX_VALUE;
    private static final int[] NO_REGISTER = {MIN, MIN + 7, -8, -2, -1, 8, 9, 15, 16, 64, 256, 65536, MAX - 7, MAX};
    private static final int[] NO_CELL = {MIN, MIN + 15, -16, -2, -1, 16, 17, 31, 32, 256, 65536, MAX - 15, MAX};
    private static final int[] VALUES = {MIN, -1, 0, 1, MAX};

    public static void main(String[] args) {
        retractOfNone();
        retractOfTheLast();
        setRegisterOutside();
        setMemoryOutside();
        registerOutside();
        memoryOutside();
        clearedProgram();
        clearedPlaces();
        Check.finish();
    }

    private static void retractOfNone() {
        Check.sentence("Promise 3: BAD if there was none.");
        DaeProcessor p = new DaeProcessor(1, 1);
        Check.due("of a new object", p.retract(), DaeProcessor.BAD);
        Check.due("again", p.retract(), DaeProcessor.BAD);
        Check.due("the number is still 0", Assembler.emit(p, "ADDI 1 1 1"), 1);
        Check.due("of one", p.retract(), 0);
        Check.due("of none", p.retract(), DaeProcessor.BAD);
        Check.due("emit refused", Assembler.emit(p, "ADDI 8 1 1"), DaeProcessor.BAD);
        Check.due("of none after it", p.retract(), DaeProcessor.BAD);
        Check.due("run() of none", p.run(), 0);
        Check.due("of none after a run", p.retract(), DaeProcessor.BAD);
        Assembler.append(p, 0, "ADDI 1 1 1", "ADDI 1 1 1");
        p.clear();
        Check.due("of none after clear", p.retract(), DaeProcessor.BAD);
        Check.dueEverywhere("refused changes nothing", p, 0);
    }

    private static void retractOfTheLast() {
        Check.sentence("Promise 3: Takes the last instruction away; answers the new number of instructions");
        DaeProcessor p = new DaeProcessor(1, 1);
        for (int i = 0; i < 24; i++) {
            Assembler.append(p, i, "ADDI 2 0 " + (i + 1));
        }
        for (int left = 23; left >= 0; left--) {
            Check.due("retract() to " + left, p.retract(), left);
            p.setRegister(2, 0);
            Check.due("run() of " + left, p.run(), left);
            Check.due("the last of " + left, p.register(2), left);
        }
        Assembler.append(p, 0, "LOAD 1 2 0", "SKIPZ 3 1", "STORE 4 5 0");
        Check.due("side of three", p.addressSide(), 4 + 8 + 32);
        p.retract();
        Check.due("side of two", p.addressSide(), 4 + 8);
        Check.due("two are malformed", p.run(), DaeProcessor.MALFORMED);
        p.retract();
        Check.due("side of one", p.addressSide(), 4);
        Check.due("one is well formed", p.run(), 1);
    }

    private static void setRegisterOutside() {
        Check.sentence("Promise 4: r outside 0..7: refused, answers false. Else true.");
        DaeProcessor p = new DaeProcessor(1, 1);
        Assembler.fill(p, 5);
        for (int r : NO_REGISTER) {
            Check.due("setRegister(" + r + ")", p.setRegister(r, 99), false);
        }
        Check.dueEverywhere("after all refused", p, 5);
        for (int r = 0; r < 8; r++) {
            for (int v : VALUES) {
                DaeProcessor q = new DaeProcessor(1, 1);
                Assembler.fill(q, 5);
                Check.due("setRegister(" + r + ", " + v + ")", q.setRegister(r, v), true);
                dueBut(q, r, -1, v);
            }
        }
    }

    private static void setMemoryOutside() {
        Check.sentence("Promise 5: cell outside 0..15: refused, answers false. Else true.");
        DaeProcessor p = new DaeProcessor(1, 1);
        Assembler.fill(p, 5);
        for (int cell : NO_CELL) {
            Check.due("setMemory(" + cell + ")", p.setMemory(cell, 99), false);
        }
        Check.dueEverywhere("after all refused", p, 5);
        for (int cell = 0; cell < 16; cell++) {
            for (int v : VALUES) {
                DaeProcessor q = new DaeProcessor(1, 1);
                Assembler.fill(q, 5);
                Check.due("setMemory(" + cell + ", " + v + ")", q.setMemory(cell, v), true);
                dueBut(q, -1, cell, v);
            }
        }
    }

    /** All places hold 5 but for the one that was set. */
    private static void dueBut(DaeProcessor p, int setRegister, int setCell, int v) {
        for (int r = 0; r < 8; r++) {
            Check.due("register(" + r + ")", p.register(r), r == setRegister ? v : 5);
        }
        for (int cell = 0; cell < 16; cell++) {
            Check.due("memory(" + cell + ")", p.memory(cell), cell == setCell ? v : 5);
        }
    }

    private static void registerOutside() {
        Check.sentence("Promise 7: 0 for r outside 0..7.");
        DaeProcessor p = new DaeProcessor(1, 1);
        Assembler.fill(p, -9);
        for (int r : NO_REGISTER) {
            Check.due("register(" + r + ")", p.register(r), 0);
        }
        for (int r = 0; r < 8; r++) {
            Check.due("register(" + r + ")", p.register(r), -9);
        }
    }

    private static void memoryOutside() {
        Check.sentence("Promise 8: 0 for cell outside 0..15.");
        DaeProcessor p = new DaeProcessor(1, 1);
        Assembler.fill(p, -9);
        for (int cell : NO_CELL) {
            Check.due("memory(" + cell + ")", p.memory(cell), 0);
        }
        for (int cell = 0; cell < 16; cell++) {
            Check.due("memory(" + cell + ")", p.memory(cell), -9);
        }
    }

    private static void clearedProgram() {
        Check.sentence("Promise 10: Makes the program empty");
        for (int length = 0; length <= 24; length++) {
            DaeProcessor p = new DaeProcessor(2, 2);
            for (int i = 0; i < length; i++) {
                Assembler.append(p, i, "STORE 1 2 3");
            }
            p.clear();
            Check.due("addressSide() after " + length, p.addressSide(), 0);
            Check.due("run() after " + length, p.run(), 0);
            Check.due("retract() after " + length, p.retract(), DaeProcessor.BAD);
            for (int i = 0; i < 24; i++) {
                Assembler.append(p, i, "ADDI 1 1 1");
            }
            Check.due("full again after " + length, Assembler.emit(p, "END"), DaeProcessor.FULL);
            Check.due("run() of the new ones after " + length, p.run(), 24);
        }
        DaeProcessor p = Assembler.with("REPEAT 2");
        Check.due("malformed", p.run(), DaeProcessor.MALFORMED);
        p.clear();
        Check.due("no longer malformed", p.run(), 0);
    }

    private static void clearedPlaces() {
        Check.sentence("Promise 10: and all registers and memory cells 0.");
        DaeProcessor p = new DaeProcessor(2, 2);
        p.clear();
        Check.dueEverywhere("clear of a new object", p, 0);
        for (int v : VALUES) {
            Assembler.fill(p, v);
            p.clear();
            Check.dueEverywhere("clear of " + v, p, 0);
        }
        // what a run has left, also in the access half, shows in no later run
        Assembler.fill(p, 5);
        Assembler.append(p, 0, "ADDI 1 1 4", "LOAD 2 1 0", "STORE 1 2 7");
        p.run();
        p.clear();
        Check.dueEverywhere("clear after a run", p, 0);
        Assembler.append(p, 0, "STORE 3 1 2", "LOAD 4 1 2", "SKIPZ 4 1", "ADDI 5 5 1");
        Check.due("run() after clear", p.run(), 3);
        Check.dueEverywhere("clear and a run", p, 0);
    }
}
