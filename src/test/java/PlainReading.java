import java.util.ArrayList;
import java.util.List;

/**
 * The document's plain reading, one instruction after the other, written apart from the program
 * (loops by matching brackets in the text, the address side by a worklist), to be compared with it.
 */
final class PlainReading {
    final List<int[]> program = new ArrayList<>();
    final int[] register = new int[8];
    final int[] memory = new int[16];

    private static boolean reg(int r) {
        return 0 <= r && r <= 7;
    }

    static boolean isInstruction(int op, int x, int y, int z) {
        if (op < 0 || op > 10) {
            return false;
        }
        if (op <= 4) {
            return reg(x) && reg(y) && reg(z);
        }
        if (op <= 7) {
            return reg(x) && reg(y);
        }
        if (op == 8) {
            return reg(x) && 1 <= y && y <= 8;
        }
        return op == 10 || (1 <= x && x <= 6);
    }

    int emit(int op, int x, int y, int z) {
        if (program.size() == 24) {
            return -2;
        }
        if (!isInstruction(op, x, y, z)) {
            return -1;
        }
        program.add(new int[] {op, x, y, z});
        return program.size();
    }

    int retract() {
        if (program.isEmpty()) {
            return -1;
        }
        program.remove(program.size() - 1);
        return program.size();
    }

    /** The text of the brackets in a part of the program; other instructions leave nothing. */
    private String brackets(int from, int to) {
        StringBuilder text = new StringBuilder();
        for (int[] i : program.subList(from, to)) {
            text.append(i[0] == 9 ? "(" : i[0] == 10 ? ")" : "");
        }
        return text.toString();
    }

    /** Takes the innermost pairs away, once for each level that may be open. */
    private static boolean balanced(String text, int levels) {
        String rest = text;
        for (int level = 0; level < levels; level++) {
            rest = rest.replace("()", "");
        }
        return rest.isEmpty();
    }

    boolean wellFormed() {
        if (!balanced(brackets(0, program.size()), 2)) {
            return false;
        }
        for (int at = 0; at < program.size(); at++) {
            int[] i = program.get(at);
            if (i[0] == 8) {
                int end = at + 1 + i[2];
                if (end > program.size() || !balanced(brackets(at + 1, end), 24)) {
                    return false;
                }
            }
        }
        return true;
    }

    private int matchingEnd(int repeat) {
        int open = 0;
        for (int at = repeat; ; at++) {
            open += program.get(at)[0] == 9 ? 1 : program.get(at)[0] == 10 ? -1 : 0;
            if (open == 0) {
                return at;
            }
        }
    }

    int run() {
        return wellFormed() ? pass(0, program.size()) : -3;
    }

    private int pass(int from, int to) {
        int count = 0;
        int at = from;
        while (at < to) {
            int[] i = program.get(at);
            count++;
            if (i[0] == 9) {
                int end = matchingEnd(at);
                for (int n = 0; n < i[1]; n++) {
                    count += pass(at + 1, end) + 1;
                }
                at = end + 1;
            } else if (i[0] == 8) {
                at += 1 + (register[i[1]] == 0 ? i[2] : 0);
            } else {
                act(i[0], i[1], i[2], i[3]);
                at++;
            }
        }
        return count;
    }

    private void act(int op, int x, int y, int z) {
        switch (op) {
            case 0 -> register[x] = register[y] + register[z];
            case 1 -> register[x] = register[y] - register[z];
            case 2 -> register[x] = register[y] * register[z];
            case 3 -> register[x] = register[y] ^ register[z];
            case 4 -> register[x] = register[y] < register[z] ? 1 : 0;
            case 5 -> register[x] = register[y] + z;
            case 6 -> register[x] = memory[(register[y] + z) & 15];
            case 7 -> memory[(register[y] + z) & 15] = register[x];
            default -> throw new IllegalStateException();
        }
    }

    int addressSide() {
        List<Integer> todo = new ArrayList<>();
        for (int[] i : program) {
            if (i[0] == 6 || i[0] == 7) {
                todo.add(i[2]);
            } else if (i[0] == 8) {
                todo.add(i[1]);
            }
        }
        int side = 0;
        while (!todo.isEmpty()) {
            int r = todo.remove(todo.size() - 1);
            if ((side & 1 << r) != 0) {
                continue;
            }
            side |= 1 << r;
            for (int[] i : program) {
                if (i[0] <= 6 && i[1] == r) {
                    todo.add(i[2]);
                    if (i[0] <= 4) {
                        todo.add(i[3]);
                    }
                }
            }
        }
        return side;
    }
}
