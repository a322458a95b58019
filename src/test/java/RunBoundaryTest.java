/** Promise 6: each of its sentences that names a boundary case with a test of its own. */
public final class RunBoundaryTest {
    public static void main(String[] args) {
        presentPlaces();
        malformedChangesNothing();
        everyInstructionCounts();
        repeatCounts();
        endCounts();
        skippedDoNotCount();
        mostThatARunCanCount();
        programStays();
        Check.finish();
    }

    private static void runs(int want, String... lines) {
        for (int depth = 1; depth <= 4; depth++) {
            for (int latency = 1; latency <= 6; latency++) {
                DaeProcessor p = new DaeProcessor(depth, latency);
                Assembler.append(p, 0, lines);
                Check.due("run() of " + String.join(", ", lines), p.run(), want);
            }
        }
    }

    private static void presentPlaces() {
        Check.sentence("Runs the program on the present registers and memory.");
        DaeProcessor p = Assembler.with("LOAD 1 2 0", "ADD 3 3 1", "ADDI 2 2 1", "STORE 3 2 8");
        for (int cell = 0; cell < 16; cell++) {
            p.setMemory(cell, 1 << cell);
        }
        Check.due("first run()", p.run(), 4);
        Check.due("memory(9) of the first", p.memory(9), 1);
        Check.due("second run(), on what the first left", p.run(), 4);
        Check.due("memory(10) of the second", p.memory(10), 3);
        p.setRegister(2, 6);
        p.setMemory(6, 100);
        Check.due("third run(), on what was set since", p.run(), 4);
        Check.due("memory(15) of the third", p.memory(15), 103);
        Check.due("register(2)", p.register(2), 7);
    }

    private static void malformedChangesNothing() {
        Check.sentence("MALFORMED, with nothing changed, if it is not well formed.");
        String[][] tails = {{"END"}, {"REPEAT 2"}, {"SKIPZ 6 1"}, {"REPEAT 1", "SKIPZ 6 1", "END"},
            {"REPEAT 1", "REPEAT 1", "REPEAT 1", "END", "END", "END"}};
        for (String[] tail : tails) {
            DaeProcessor p = Assembler.with("ADDI 1 1 1", "STORE 1 1 0", "LOAD 2 1 0", "MUL 3 3 3");
            Assembler.append(p, 4, tail);
            Assembler.fill(p, 9);
            String what = "with " + String.join(", ", tail);
            for (int i = 0; i < 3; i++) {
                Check.due(what + ": run()", p.run(), DaeProcessor.MALFORMED);
                Check.dueEverywhere(what, p, 9);
            }
            Check.due(what + ": addressSide()", p.addressSide() & ~(1 << 6), 1 << 1);
            for (int i = tail.length - 1; i >= 0; i--) {
                Check.due(what + ": the program is there", p.retract(), 4 + i);
            }
            Check.due(what + ", taken away: run()", p.run(), 4);
            Check.due(what + ", taken away: register(1)", p.register(1), 10);
            Check.due(what + ", taken away: memory(10)", p.memory(10), 10);
            Check.due(what + ", taken away: register(2)", p.register(2), 10);
            Check.due(what + ", taken away: register(3)", p.register(3), 81);
        }
    }

    private static void everyInstructionCounts() {
        Check.sentence("every instruction counts each time it is come to");
        runs(0);
        for (String op : new String[] {"ADD", "SUB", "MUL", "XOR", "LESS", "ADDI", "LOAD", "STORE"}) {
            runs(1, op + " 1 2 3");
            runs(2, op + " 1 2 3", op + " 1 2 3");
            runs(1 + 4 * 2, "REPEAT 4", op + " 1 1 1", "END");
        }
        runs(2, "ADDI 1 1 1", "SKIPZ 2 1", "ADD 1 1 1");
        runs(3, "ADDI 1 1 1", "SKIPZ 1 1", "ADD 1 1 1");
    }

    private static void repeatCounts() {
        Check.sentence("REPEAT once each time it is come to from outside its loop");
        // the body is empty: what is not END is REPEAT
        for (int x = 1; x <= 6; x++) {
            runs(1 + x, "REPEAT " + x, "END");
            for (int inner = 1; inner <= 6; inner++) {
                runs(1 + x * (1 + inner + 1), "REPEAT " + x, "REPEAT " + inner, "END", "END");
            }
        }
        runs(1 + 3 * (1 + 2 + 1 + 4 + 1), "REPEAT 3", "REPEAT 2", "END", "REPEAT 4", "END", "END");
        runs(1 + 2 + 1 + 2, "REPEAT 2", "END", "REPEAT 2", "END");
    }

    private static void endCounts() {
        Check.sentence("END once a pass");
        for (int x = 1; x <= 6; x++) {
            runs(1 + x * 2, "REPEAT " + x, "ADDI 1 1 1", "END");
            runs(1 + x * 2 + 1, "REPEAT " + x, "ADDI 1 1 1", "END", "ADDI 1 1 1");
            // also of a pass whose whole body is skipped
            runs(1 + x * 2, "REPEAT " + x, "SKIPZ 1 1", "ADDI 2 2 1", "END");
        }
    }

    private static void skippedDoNotCount() {
        Check.sentence("skipped instructions do not count");
        for (int y = 1; y <= 8; y++) {
            String[] lines = new String[1 + 8];
            lines[0] = "SKIPZ 1 " + y;
            for (int i = 1; i <= 8; i++) {
                lines[i] = "ADDI 2 2 1";
            }
            runs(1 + 8 - y, lines);
            lines[0] = "SKIPZ 2 " + y;
            String[] set = new String[10];
            set[0] = "ADDI 2 2 1";
            System.arraycopy(lines, 0, set, 1, 9);
            runs(10, set);
        }
        runs(1, "SKIPZ 1 3", "REPEAT 6", "ADDI 2 2 1", "END");
        runs(2, "SKIPZ 1 2", "REPEAT 6", "END", "ADDI 2 2 1");
        runs(1, "SKIPZ 1 2", "SKIPZ 1 1", "ADDI 2 2 1");
        // skipped in the first of three passes alone
        runs(1 + (1 + 1 + 1) + 2 * (1 + 1 + 1 + 1), "REPEAT 3", "SKIPZ 1 1", "MUL 2 2 2", "ADDI 1 1 1", "END");
    }

    private static void mostThatARunCanCount() {
        Check.sentence("the number of instructions executed, of the longest program in the most passes");
        String[] lines = new String[24];
        lines[0] = "REPEAT 6";
        lines[1] = "REPEAT 6";
        lines[22] = "END";
        lines[23] = "END";
        for (String body : new String[] {"ADDI 1 1 1", "LOAD 1 1 0", "STORE 1 2 3", "ADD 1 1 1"}) {
            for (int i = 2; i < 22; i++) {
                lines[i] = body;
            }
            runs(1 + 6 * (1 + 6 * 21 + 1), lines);
        }
        // no cell is free of a store that a load must wait for
        for (int i = 2; i < 22; i += 2) {
            lines[i] = "STORE 1 2 3";
            lines[i + 1] = "LOAD 1 2 3";
        }
        runs(1 + 6 * (1 + 6 * 21 + 1), lines);
    }

    private static void programStays() {
        Check.sentence("The program stays as it is.");
        DaeProcessor p = Assembler.with("REPEAT 2", "ADDI 1 1 1", "REPEAT 3", "STORE 1 0 1", "END", "SKIPZ 2 1",
            "LOAD 3 0 1", "END");
        for (int i = 1; i <= 12; i++) {
            Check.due("run no. " + i, p.run(), 1 + 2 * (1 + 1 + 2 * 3 + 1 + 1));
            Check.due("register(1) after run no. " + i, p.register(1), 2 * i);
            Check.due("addressSide() after run no. " + i, p.addressSide(), 1 + 4);
        }
        Check.due("emit() after the runs", Assembler.emit(p, "ADDI 5 5 1"), 9);
        Check.due("run() with it", p.run(), 22);
        Check.due("retract() after the runs", p.retract(), 8);
        Check.due("run() without it", p.run(), 21);
        Check.due("register(5)", p.register(5), 1);
    }
}
