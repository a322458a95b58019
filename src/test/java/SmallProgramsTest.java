/** Every short program out of a few chosen instructions, compared with the plain reading. */
public final class SmallProgramsTest {
    private static final int[][] SIZES = {{1, 6}, {2, 3}, {4, 1}};
    private static final int[][] REGISTERS = {{0, 0, 3, 14}, {5, 0, -1, 15}};

    // Loops, and skips taken or not, of few and of many instructions.
    private static final String[] SHAPES = {"REPEAT 2", "REPEAT 1", "END", "SKIPZ 0 1", "SKIPZ 0 2", "SKIPZ 2 1",
        "SKIPZ 2 3", "ADDI 0 0 1", "LOAD 0 2 1", "STORE 0 1 2"};

    // Loads and stores that meet in the same cells, through registers of both halves.
    private static final String[] PLACES = {"LOAD 0 0 0", "LOAD 3 1 0", "LOAD 0 1 1", "STORE 3 0 0", "STORE 1 1 1",
        "ADDI 0 1 1", "ADD 1 3 1", "MUL 3 1 0", "SKIPZ 1 1"};

    private static final String[] NONE = {};

    public static void main(String[] args) {
        for (int length = 0; length <= 5; length++) {
            all(NONE, SHAPES, length, NONE);
        }
        for (int length = 1; length <= 4; length++) {
            all(NONE, PLACES, length, NONE);
            all(new String[] {"REPEAT 2", "REPEAT 2"}, PLACES, length, new String[] {"END", "END"});
        }
        Check.finish();
    }

    /** All lists of this length of such lines, each between the lines before and behind. */
    private static void all(String[] before, String[] lines, int length, String[] behind) {
        int count = 1;
        for (int i = 0; i < length; i++) {
            count *= lines.length;
        }
        String[] program = new String[before.length + length + behind.length];
        System.arraycopy(before, 0, program, 0, before.length);
        System.arraycopy(behind, 0, program, before.length + length, behind.length);
        for (int number = 0; number < count; number++) {
            int rest = number;
            for (int i = 0; i < length; i++) {
                program[before.length + i] = lines[rest % lines.length];
                rest /= lines.length;
            }
            compare(program, SIZES[number % SIZES.length]);
        }
    }

    private static void compare(String[] program, int[] sizes) {
        for (int[] registers : REGISTERS) {
            DaeProcessor p = new DaeProcessor(sizes[0], sizes[1]);
            PlainReading plain = new PlainReading();
            for (int r = 0; r < registers.length; r++) {
                p.setRegister(r, registers[r]);
                plain.register[r] = registers[r];
            }
            for (int cell = 0; cell < 16; cell++) {
                p.setMemory(cell, 7 * (cell % 5) - 7);
                plain.memory[cell] = 7 * (cell % 5) - 7;
            }
            for (String line : program) {
                int[] i = Assembler.instruction(line);
                Check.due("emit of " + line, p.emit(i[0], i[1], i[2], i[3]), plain.emit(i[0], i[1], i[2], i[3]));
            }
            compareRun(String.join("; ", program), p, plain);
        }
    }

    private static void compareRun(String program, DaeProcessor p, PlainReading plain) {
        Check.due(program + ": addressSide()", p.addressSide(), plain.addressSide());
        Check.due(program + ": run()", p.run(), plain.run());
        for (int r = 0; r < 8; r++) {
            Check.due(program, p.register(r), plain.register[r]);
        }
        for (int cell = 0; cell < 16; cell++) {
            Check.due(program, p.memory(cell), plain.memory[cell]);
        }
    }
}
