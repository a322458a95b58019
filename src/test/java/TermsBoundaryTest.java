/** The sentences of the section "Terms" that name a boundary case, each with a test of its own. */
public final class TermsBoundaryTest {
    private static final int MIN = Integer.MIN_VALUE;
    private static final int MAX = Integer.MAX_VALUE;

    public static void main(String[] args) {
        placesAndTheirRange();
        arithmeticWraps();
        upTo24Instructions();
        loadedCell();
        storedCell();
        signedLess();
        skipOnlyAtZero();
        skipLengths();
        passes();
        whereThePassesBegin();
        sourcesBeforeTarget();
        endOfTheRun();
        Check.finish();
    }

    private static void placesAndTheirRange() {
        Check.sentence("There are 8 registers, 0 to 7, and 16 memory cells, 0 to 15, all of type int");
        for (int value : new int[] {MIN, -1, 0, 1, MAX}) {
            for (int r = 0; r < 8; r++) {
                for (int cell = 0; cell < 16; cell++) {
                    int base = (r + 1) % 8;
                    DaeProcessor p = Assembler.with("STORE " + r + " " + base + " " + cell,
                        "ADDI " + r + " " + base + " 3", "LOAD " + r + " " + base + " " + cell);
                    p.setRegister(r, value);
                    String what = value + " by register " + r + " and cell " + cell;
                    Check.due(what + ": run()", p.run(), 3);
                    Check.due(what + ": the register", p.register(r), value);
                    Check.due(what + ": the cell", p.memory(cell), value);
                }
            }
        }
        DaeProcessor p = new DaeProcessor(1, 1);
        Check.due("no register 8", Assembler.emit(p, "ADDI 8 0 0"), DaeProcessor.BAD);
        Check.due("no register -1", Assembler.emit(p, "ADDI -1 0 0"), DaeProcessor.BAD);
    }

    /** The operation where the execute half does it and where the target is an address. */
    private static void gives(String op, int left, int right, int want) {
        givesAfter(op + " 1 2 3", left, right, want);
        if (op.equals("ADD")) {
            givesAfter("ADDI 1 2 " + right, left, 0, want);
        }
    }

    private static void givesAfter(String line, int left, int right, int want) {
        String what = line + " with " + left + " and " + right;
        DaeProcessor p = Assembler.with(line);
        p.setRegister(2, left);
        p.setRegister(3, right);
        Check.due(what + ": run()", p.run(), 1);
        Check.due(what, p.register(1), want);
        Assembler.append(p, 1, "LOAD 4 1 0");
        p.setRegister(1, 0);
        p.setMemory(want & 15, 55);
        Check.due(what + ", as an address: run()", p.run(), 2);
        Check.due(what + ", as an address", p.register(1), want);
        Check.due(what + ", as an address: the cell", p.register(4), 55);
    }

    private static void arithmeticWraps() {
        Check.sentence("arithmetic wraps as in Java");
        gives("ADD", MAX - 1, 1, MAX);
        gives("ADD", MAX, 1, MIN);
        gives("ADD", MIN + 1, -1, MIN);
        gives("ADD", MIN, -1, MAX);
        gives("ADD", MAX, MAX, -2);
        gives("ADD", MIN, MIN, 0);
        gives("ADD", MIN, MAX, -1);
        gives("SUB", MIN + 1, 1, MIN);
        gives("SUB", MIN, 1, MAX);
        gives("SUB", MAX - 1, -1, MAX);
        gives("SUB", MAX, -1, MIN);
        gives("SUB", -1, MIN, MAX);
        gives("SUB", 0, MIN, MIN);
        gives("SUB", MIN, MAX, 1);
        gives("MUL", 46340, 46340, 2147395600);
        gives("MUL", 46341, 46341, -2147479015);
        gives("MUL", 32768, 65535, 2147450880);
        gives("MUL", 32768, 65536, MIN);
        gives("MUL", 65536, 65536, 0);
        gives("MUL", MIN + 1, -1, MAX);
        gives("MUL", MIN, -1, MIN);
        gives("MUL", MAX, 2, -2);
        gives("MUL", MAX, MAX, 1);
        gives("MUL", MIN, MIN, 0);
        gives("XOR", MIN, -1, MAX);
        gives("XOR", MAX, -1, MIN);
    }

    private static void upTo24Instructions() {
        Check.sentence("A program is a list of up to 24 instructions, numbered from 0");
        DaeProcessor p = new DaeProcessor(2, 2);
        for (int i = 0; i < 24; i++) {
            Assembler.append(p, i, "ADDI " + i % 8 + " " + i % 8 + " " + (1 << i));
        }
        Check.due("instruction 24", Assembler.emit(p, "ADDI 0 0 16777216"), DaeProcessor.FULL);
        Check.due("run()", p.run(), 24);
        for (int r = 0; r < 8; r++) {
            int want = (1 << r) + (1 << r + 8) + (1 << r + 16);
            Check.due("each was run once: register(" + r + ")", p.register(r), want);
        }
    }

    // register, number, cell
    private static final int[][] ADDRESSES = {
        {0, 0, 0}, {14, 1, 15}, {15, 0, 15}, {15, 1, 0}, {16, 0, 0}, {16, -1, 15}, {0, 15, 15}, {0, 16, 0},
        {0, 17, 1}, {0, -1, 15}, {-1, 0, 15}, {-1, 1, 0}, {0, -15, 1}, {0, -16, 0}, {0, -17, 15}, {-16, 0, 0},
        {-17, 0, 15}, {8, 7, 15}, {8, 8, 0}, {-8, 8, 0}, {MAX, 0, 15}, {MAX, 1, 0}, {MAX, MAX, 14}, {MIN, 0, 0},
        {MIN, -1, 15}, {MIN, MIN, 0}, {0, MAX, 15}, {0, MIN, 0}, {1, MAX, 0}, {-1, MIN, 15}, {MIN, MAX, 15},
    };

    private static void loadedCell() {
        Check.sentence("LOAD: register x becomes the memory cell (register y + z) & 15");
        for (int[] a : ADDRESSES) {
            String what = "cell of " + a[0] + " and " + a[1];
            DaeProcessor p = Assembler.with("LOAD 1 2 " + a[1]);
            for (int cell = 0; cell < 16; cell++) {
                p.setMemory(cell, 100 + cell);
            }
            p.setRegister(2, a[0]);
            Check.due(what + ": run()", p.run(), 1);
            Check.due(what, p.register(1), 100 + a[2]);
            Assembler.append(p, 1, "LOAD 3 1 0", "STORE 1 1 1");
            p.setRegister(1, -3);
            Check.due(what + ", loaded as an address: run()", p.run(), 3);
            Check.due(what + ", loaded as an address", p.register(1), 100 + a[2]);
            Check.due(what + ", loaded as an address: its cell", p.register(3), 100 + (100 + a[2]) % 16);
            Check.due(what + ", loaded as an address: the next", p.memory((101 + a[2]) % 16), 100 + a[2]);
        }
    }

    private static void storedCell() {
        Check.sentence("STORE: memory cell (register y + z) & 15 becomes register x");
        for (int[] a : ADDRESSES) {
            String what = "cell of " + a[0] + " and " + a[1];
            DaeProcessor p = Assembler.with("STORE 1 2 " + a[1]);
            p.setRegister(1, 31);
            p.setRegister(2, a[0]);
            Check.due(what + ": run()", p.run(), 1);
            for (int cell = 0; cell < 16; cell++) {
                Check.due(what + ": memory(" + cell + ")", p.memory(cell), cell == a[2] ? 31 : 0);
            }
        }
    }

    private static void signedLess() {
        Check.sentence("register x becomes 1 if register y < register z (signed), else 0");
        // each is less than the next, also where their difference is no int
        int[] rising = {MIN, MIN + 1, -2, -1, 0, 1, 2, MAX - 1, MAX};
        for (int left = 0; left < rising.length; left++) {
            for (int right = 0; right < rising.length; right++) {
                gives("LESS", rising[left], rising[right], left < right ? 1 : 0);
            }
        }
    }

    private static void skipOnlyAtZero() {
        Check.sentence("if register x is 0, the next y instructions are skipped; else nothing");
        for (int value : new int[] {0, 1, -1, 2, 8, 16, 256, 65536, MAX, MIN, MIN + 1}) {
            DaeProcessor p = Assembler.with("SKIPZ 3 1", "ADDI 1 1 1");
            p.setRegister(3, value);
            Check.due("run() at " + value, p.run(), value == 0 ? 1 : 2);
            Check.due("register(1) at " + value, p.register(1), value == 0 ? 0 : 1);
            Check.due("register(3) at " + value, p.register(3), value);
        }
    }

    private static void skipLengths() {
        Check.sentence("the next y instructions are skipped (y from 1 to 8)");
        for (int y = 1; y <= 8; y++) {
            DaeProcessor p = Assembler.with("SKIPZ 7 " + y);
            for (int i = 0; i < 9; i++) {
                Assembler.append(p, 1 + i, "ADDI 1 1 " + (1 << i));
            }
            Check.due("run() with a skip of " + y, p.run(), 1 + 9 - y);
            Check.due("what a skip of " + y + " leaves", p.register(1), 511 >> y << y);
            p.setRegister(7, -5);
            p.setRegister(1, 0);
            Check.due("run() with no skip of " + y, p.run(), 10);
            Check.due("no skip of " + y + " leaves all", p.register(1), 511);
        }
        DaeProcessor p = new DaeProcessor(1, 1);
        Check.due("a skip of 0", Assembler.emit(p, "SKIPZ 7 0"), DaeProcessor.BAD);
        Check.due("a skip of 9", Assembler.emit(p, "SKIPZ 7 9"), DaeProcessor.BAD);
    }

    private static void passes() {
        Check.sentence("a loop that is passed x times (x from 1 to 6)");
        for (int x = 1; x <= 6; x++) {
            DaeProcessor p = Assembler.with("REPEAT " + x, "ADDI 1 1 1", "END");
            Check.due("run() with " + x + " passes", p.run(), 1 + 2 * x);
            Check.due("passes of " + x, p.register(1), x);
            for (int inner = 1; inner <= 6; inner++) {
                p = Assembler.with("REPEAT " + x, "REPEAT " + inner, "ADDI 1 1 1", "END", "END");
                p.run();
                Check.due("passes of " + x + " times " + inner, p.register(1), x * inner);
            }
        }
        DaeProcessor p = new DaeProcessor(1, 1);
        Check.due("0 passes", Assembler.emit(p, "REPEAT 0"), DaeProcessor.BAD);
        Check.due("7 passes", Assembler.emit(p, "REPEAT 7"), DaeProcessor.BAD);
    }

    private static void whereThePassesBegin() {
        Check.sentence("the next pass begins after its REPEAT, or, after the last pass, the run goes on after END");
        DaeProcessor p = Assembler.with("ADDI 1 1 1", "REPEAT 3", "ADDI 2 2 1", "REPEAT 2", "ADDI 3 3 1", "END",
            "ADDI 4 4 1", "END", "ADDI 5 5 1");
        Check.due("run()", p.run(), 1 + 1 + 3 * (1 + 1 + 2 * 2 + 1 + 1) + 1);
        Check.due("before the loops", p.register(1), 1);
        Check.due("after the outer REPEAT", p.register(2), 3);
        Check.due("after the inner REPEAT", p.register(3), 6);
        Check.due("after the inner END", p.register(4), 3);
        Check.due("after the outer END", p.register(5), 1);
        p = Assembler.with("REPEAT 1", "ADDI 1 1 1", "END", "REPEAT 6", "ADDI 2 2 1", "END");
        Check.due("one loop after the other: run()", p.run(), 3 + 13);
        Check.due("the first pass is the last", p.register(1), 1);
        Check.due("the next loop", p.register(2), 6);
        p = Assembler.with("REPEAT 4", "END", "ADDI 1 1 1");
        Check.due("nothing in the loop: run()", p.run(), 1 + 4 + 1);
        Check.due("after that loop", p.register(1), 1);
    }

    /** Each register holds 10 times its number plus 7 before the one instruction. */
    private static void reads(String line, int target, int want) {
        for (String user : new String[] {"ADDI 0 0 0", "LOAD 0 " + target + " 0"}) {
            DaeProcessor p = Assembler.with(line, user);
            for (int r = 0; r < 8; r++) {
                p.setRegister(r, 10 * r + 7);
            }
            for (int cell = 0; cell < 16; cell++) {
                p.setMemory(cell, 1000 + cell);
            }
            Check.due(line + ", " + user + ": run()", p.run(), 2);
            for (int r = 1; r < 8; r++) {
                int due = r == target ? want : 10 * r + 7;
                Check.due(line + ", " + user + ": register(" + r + ")", p.register(r), due);
            }
        }
    }

    private static void sourcesBeforeTarget() {
        Check.sentence("Sources are read before the target is written.");
        reads("ADD 1 1 2", 1, 17 + 27);
        reads("ADD 1 2 1", 1, 27 + 17);
        reads("ADD 1 1 1", 1, 34);
        reads("SUB 1 1 2", 1, -10);
        reads("SUB 1 2 1", 1, 10);
        reads("SUB 1 1 1", 1, 0);
        reads("MUL 1 1 2", 1, 17 * 27);
        reads("MUL 1 2 1", 1, 27 * 17);
        reads("MUL 1 1 1", 1, 17 * 17);
        reads("XOR 1 1 2", 1, 17 ^ 27);
        reads("XOR 1 2 1", 1, 27 ^ 17);
        reads("XOR 1 1 1", 1, 0);
        reads("LESS 1 1 2", 1, 1);
        reads("LESS 1 2 1", 1, 0);
        reads("LESS 1 1 1", 1, 0);
        reads("ADDI 1 1 5", 1, 22);
        reads("LOAD 1 1 4", 1, 1000 + (21 & 15));
        DaeProcessor p = Assembler.with("STORE 1 1 4");
        p.setRegister(1, 17);
        Check.due("STORE by its own value: run()", p.run(), 1);
        Check.due("STORE by its own value: the cell", p.memory(21 & 15), 17);
        Check.due("STORE by its own value: the register", p.register(1), 17);
    }

    private static void endOfTheRun() {
        Check.sentence("The run ends when it comes to the end of the program.");
        Check.due("there at once", new DaeProcessor(1, 1).run(), 0);
        Check.due("after one", Assembler.with("ADD 1 1 1").run(), 1);
        Check.due("by a skip", Assembler.with("SKIPZ 0 2", "ADD 1 1 1", "ADD 2 2 2").run(), 1);
        Check.due("not by a skip short of it", Assembler.with("SKIPZ 0 1", "ADD 1 1 1", "ADD 2 2 2").run(), 2);
        Check.due("by an END", Assembler.with("REPEAT 2", "ADD 1 1 1", "END").run(), 5);
        Check.due("by two ENDs", Assembler.with("REPEAT 2", "REPEAT 2", "END", "END").run(), 1 + 2 * (1 + 2 + 1));
        DaeProcessor p = new DaeProcessor(1, 1);
        for (int i = 0; i < 24; i++) {
            Assembler.append(p, i, "ADDI 1 1 1");
        }
        for (int left = 23; left >= 0; left--) {
            p.retract();
            p.setRegister(1, 0);
            Check.due("run() of " + left + " with others taken away behind them", p.run(), left);
            Check.due("what " + left + " do", p.register(1), left);
        }
    }
}
