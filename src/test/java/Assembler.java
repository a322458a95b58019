import java.util.List;

/** Programs as text, one instruction a line ("ADDI 1 2 -5"), so that a test shows what it runs. */
final class Assembler {
    private static final List<String> NAMES = List.of(
        "ADD", "SUB", "MUL", "XOR", "LESS", "ADDI", "LOAD", "STORE", "SKIPZ", "REPEAT", "END");

    private Assembler() {
    }

    /** The arguments of emit; those that are left out are 0. */
    static int[] instruction(String line) {
        String[] words = line.split(" ");
        int[] arguments = new int[4];
        arguments[0] = NAMES.indexOf(words[0]);
        for (int i = 1; i < words.length; i++) {
            arguments[i] = Integer.parseInt(words[i]);
        }
        return arguments;
    }

    static int emit(DaeProcessor p, String line) {
        int[] i = instruction(line);
        return p.emit(i[0], i[1], i[2], i[3]);
    }

    /** Adds the lines to a program that has this many instructions. */
    static void append(DaeProcessor p, int length, String... lines) {
        for (int i = 0; i < lines.length; i++) {
            Check.due("emit of " + lines[i], emit(p, lines[i]), length + i + 1);
        }
    }

    static DaeProcessor with(String... lines) {
        DaeProcessor p = new DaeProcessor(2, 5);
        append(p, 0, lines);
        return p;
    }

    static void fill(DaeProcessor p, int value) {
        for (int r = 0; r < 8; r++) {
            p.setRegister(r, value);
        }
        for (int cell = 0; cell < 16; cell++) {
            p.setMemory(cell, value);
        }
    }
}
