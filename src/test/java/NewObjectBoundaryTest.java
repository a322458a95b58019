import java.util.ArrayList;
import java.util.List;

/**
 * Promise 1: its boundary sentences, and the one on 512 calls, each with a test of its own, by answers
 * alone. What depth and latency change inside the object is looked at in InsideTest.
 */
public final class NewObjectBoundaryTest {
    private static final int MIN = Integer.MIN_VALUE;
    private static final int MAX = Integer.MAX_VALUE;
    private static final int[] SIZES = {MIN, -1, 0, 1, 2, 3, 4, 5, 6, 7, 8, 2000000, MAX};

    // The access half waits for its own loads and for late stores.
    private static final String[] WAITING = {"REPEAT 3", "LOAD 2 1 0", "MUL 3 2 2", "STORE 3 1 1", "LOAD 4 1 1",
        "SKIPZ 4 2", "STORE 4 0 9", "STORE 5 0 10", "STORE 3 0 11", "STORE 1 0 12", "STORE 4 0 13", "LOAD 5 0 9",
        "LOAD 6 0 10", "LOAD 7 0 11", "LOAD 6 0 12", "XOR 6 6 7", "LOAD 5 4 0", "ADDI 1 1 1", "END", "STORE 6 1 0"};

    // The access half goes ahead while the execute half waits for register 6; the second pass skips.
    private static final String[] GOING_AHEAD = {"REPEAT 3", "LOAD 6 0 3", "ADDI 1 1 1", "ADD 1 1 1", "SUB 2 1 2",
        "SKIPZ 2 1", "ADD 5 5 6", "LOAD 6 0 1", "STORE 6 1 0", "STORE 5 1 1", "STORE 7 1 2", "STORE 3 1 3",
        "STORE 6 1 4", "LOAD 7 1 5", "LOAD 3 1 4", "XOR 3 3 6", "ADDI 2 2 164", "LESS 4 3 7", "END"};

    public static void main(String[] args) {
        operandQueueDepth();
        storeQueueDepth();
        loadLatency();
        neitherShows();
        emptyProgram();
        zeroPlaces();
        upTo512Calls();
        Check.finish();
    }

    /** Two runs, each from the same registers and memory, leave what is due with this depth and latency. */
    private static void dueOfRuns(int depth, int latency, int executed, int[] due, String... lines) {
        DaeProcessor p = new DaeProcessor(depth, latency);
        Assembler.append(p, 0, lines);
        for (int run = 1; run <= 2; run++) {
            for (int cell = 0; cell < 16; cell++) {
                p.setMemory(cell, 10 * cell + 1);
            }
            for (int r = 0; r < 8; r++) {
                p.setRegister(r, r == 7 ? 1 : 0);
            }
            String what = "new(" + depth + ", " + latency + "), run " + run + " of " + lines[0] + " ...: ";
            Check.due(what + "run()", p.run(), executed);
            for (int r = 0; r < 8; r++) {
                Check.due(what + "register(" + r + ")", p.register(r), due[r]);
            }
        }
    }

    /** More loads, results and skips than a queue has places. */
    private static void operandQueueDepth() {
        Check.sentence("The queues between the two halves hold depth places each, clamped into 1..4 (operands)");
        for (int depth : SIZES) {
            dueOfRuns(depth, 6, 6, new int[] {0, 11, 21, 31, 41, 51, 61, 1},
                "LOAD 1 0 1", "LOAD 2 0 2", "LOAD 3 0 3", "LOAD 4 0 4", "LOAD 5 0 5", "LOAD 6 0 6");
            dueOfRuns(depth, 6, 7, new int[] {0, 1, 2, 3, 4, 5, 11, 51},
                "LOAD 6 0 1", "ADDI 1 0 1", "ADDI 2 1 1", "ADDI 3 2 1", "ADDI 4 3 1", "ADDI 5 4 1", "LOAD 7 5 0");
            dueOfRuns(depth, 6, 7, new int[] {0, 0, 0, 0, 0, 21, 11, 1},
                "LOAD 6 0 1", "SKIPZ 7 1", "SKIPZ 7 1", "SKIPZ 7 1", "SKIPZ 7 1", "SKIPZ 7 1", "LOAD 5 0 2");
        }
    }

    /** More stores that wait for a load than a queue has places. */
    private static void storeQueueDepth() {
        Check.sentence("The queues between the two halves hold depth places each, clamped into 1..4 (stores)");
        for (int depth : SIZES) {
            dueOfRuns(depth, 6, 11, new int[] {0, 1, 1, 1, 1, 1, 1, 1},
                "LOAD 1 0 0", "STORE 1 0 1", "STORE 1 0 2", "STORE 1 0 3", "STORE 1 0 4", "STORE 1 0 5",
                "LOAD 2 0 1", "LOAD 3 0 2", "LOAD 4 0 3", "LOAD 5 0 4", "LOAD 6 0 5");
        }
    }

    /** Four loads of which each waits for the one before. */
    private static void loadLatency() {
        Check.sentence("a load takes latency cycles, clamped into 1..6");
        for (int depth : SIZES) {
            for (int latency : SIZES) {
                dueOfRuns(depth, latency, 4, new int[] {0, 151, 0, 0, 0, 0, 0, 1},
                    "LOAD 1 1 0", "LOAD 1 1 0", "LOAD 1 1 0", "LOAD 1 1 0");
            }
        }
    }

    private static void neitherShows() {
        Check.sentence("Neither shows in any answer.");
        neitherShows(WAITING, 1 + 3 * 18 + 1);
        neitherShows(GOING_AHEAD, 1 + 18 + 17 + 18);
    }

    private static void neitherShows(String[] lines, int executed) {
        List<Integer> due = answers(lines, 2, 3);
        Check.due("the first run() of " + lines[1], due.get(lines.length), executed);
        for (int depth : SIZES) {
            for (int latency : SIZES) {
                List<Integer> got = answers(lines, depth, latency);
                Check.due("number of answers", got.size(), due.size());
                for (int i = 0; i < due.size(); i++) {
                    String what = lines[1] + " ...: answer " + i + " with " + depth + ", " + latency;
                    Check.due(what, got.get(i), due.get(i));
                }
            }
        }
    }

    /** Answers of every kind of call, around runs of the program. */
    private static List<Integer> answers(String[] lines, int depth, int latency) {
        DaeProcessor p = new DaeProcessor(depth, latency);
        List<Integer> answers = new ArrayList<>();
        for (int r = 0; r < 8; r++) {
            p.setRegister(r, 40 * r);
        }
        for (int cell = 0; cell < 16; cell++) {
            p.setMemory(cell, 3 * cell - 7);
        }
        for (String line : lines) {
            answers.add(Assembler.emit(p, line));
        }
        for (int run = 0; run < 4; run++) {
            answers.add(p.run());
            answers.add(p.addressSide());
            for (int r = -1; r <= 8; r++) {
                answers.add(p.register(r));
                answers.add(p.memory(r));
                answers.add(p.memory(r + 8));
            }
            answers.add(p.setRegister(1 + 7 * run, 4) ? 1 : 0);
            answers.add(p.setMemory(9 + 7 * run, 2) ? 1 : 0);
        }
        for (int i = 0; i <= lines.length; i++) {
            answers.add(p.retract());
            answers.add(p.run());
        }
        p.clear();
        answers.add(p.run());
        answers.add(p.emit(DaeProcessor.SUB, 8, 0, 0));
        answers.add(p.register(1));
        return answers;
    }

    private static void emptyProgram() {
        Check.sentence("The program is empty");
        for (int depth : SIZES) {
            for (int latency : SIZES) {
                String what = "new(" + depth + ", " + latency + ")";
                Check.due(what + ": run()", new DaeProcessor(depth, latency).run(), 0);
                Check.due(what + ": retract()", new DaeProcessor(depth, latency).retract(), DaeProcessor.BAD);
                Check.due(what + ": addressSide()", new DaeProcessor(depth, latency).addressSide(), 0);
                Check.due(what + ": emit()", Assembler.emit(new DaeProcessor(depth, latency), "ADD 0 0 0"), 1);
            }
        }
    }

    private static void zeroPlaces() {
        Check.sentence("registers and memory are 0");
        for (int depth : SIZES) {
            for (int latency : SIZES) {
                // an object used before must leave nothing in a new one
                Assembler.fill(new DaeProcessor(depth, latency), 6);
                Check.dueEverywhere("new(" + depth + ", " + latency + ")", new DaeProcessor(depth, latency), 0);
            }
        }
    }

    private static void upTo512Calls() {
        Check.sentence("An object is used for at most 512 calls after it has been made");
        DaeProcessor p = new DaeProcessor(1, 6);
        Assembler.append(p, 0, "LOAD 1 0 3", "ADDI 1 1 1", "STORE 1 0 3");
        int calls = 3;
        for (; calls < 510; calls++) {
            Check.due("run() as call " + (calls + 1), p.run(), 3);
        }
        Check.due("register(1) as call 511", p.register(1), 507);
        Check.due("memory(3) as call 512", p.memory(3), 507);
        // free answers behind it, but LANGUAGE.md lets no call throw or fail to end
        for (int i = 0; i < 512; i++) {
            Assembler.emit(p, "LOAD 1 1 3");
            p.run();
            p.setRegister(i, i);
            p.setMemory(i, i);
        }
        p.clear();
        p.retract();
    }
}
