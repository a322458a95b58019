/** "Terms", WELL FORMED: each of its conditions with a test of its own, on both sides. */
public final class WellFormedBoundaryTest {
    public static void main(String[] args) {
        brackets();
        openLoops();
        skippedAreThere();
        skippedAtTheProgramsLimit();
        noEndTooEarly();
        asManyOfBoth();
        everySkipCounts();
        Check.finish();
    }

    private static void runs(int want, String... lines) {
        Check.due("run() of " + String.join(", ", lines), Assembler.with(lines).run(), want);
    }

    private static void refused(String... lines) {
        DaeProcessor p = Assembler.with(lines);
        String what = String.join(", ", lines);
        // whatever a run would do: with 0 everywhere it would skip, with 3 everywhere it would not
        Check.due("run() of " + what, p.run(), DaeProcessor.MALFORMED);
        Assembler.fill(p, 3);
        Check.due("run() with 3 everywhere of " + what, p.run(), DaeProcessor.MALFORMED);
    }

    private static void brackets() {
        Check.sentence("every END has its REPEAT and every REPEAT its END (as with brackets)");
        runs(0);
        refused("END");
        refused("REPEAT 1");
        runs(2, "REPEAT 1", "END");
        refused("END", "REPEAT 1");
        refused("REPEAT 1", "END", "END");
        refused("REPEAT 1", "REPEAT 1", "END");
        runs(4, "REPEAT 1", "REPEAT 1", "END", "END");
        refused("REPEAT 1", "END", "REPEAT 1");
        refused("REPEAT 1", "END", "END", "REPEAT 1");
        runs(4, "REPEAT 1", "END", "REPEAT 1", "END");
        refused("REPEAT 1", "END", "END", "REPEAT 1", "REPEAT 1", "END");
        refused("ADD 1 1 1", "END", "ADD 1 1 1");
        refused("ADD 1 1 1", "REPEAT 6", "ADD 1 1 1");
        DaeProcessor p = Assembler.with("REPEAT 2", "ADD 1 1 1", "END");
        Check.due("whole", p.run(), 5);
        p.retract();
        Check.due("END taken away", p.run(), DaeProcessor.MALFORMED);
        Assembler.append(p, 2, "END");
        Check.due("END put back", p.run(), 5);
        Assembler.append(p, 3, "END");
        Check.due("END too many", p.run(), DaeProcessor.MALFORMED);
    }

    private static void openLoops() {
        Check.sentence("at no place are more than two loops open");
        runs(2, "REPEAT 1", "END");
        runs(4, "REPEAT 1", "REPEAT 1", "END", "END");
        refused("REPEAT 1", "REPEAT 1", "REPEAT 1", "END", "END", "END");
        refused("REPEAT 1", "REPEAT 1", "REPEAT 1", "REPEAT 1", "END", "END", "END", "END");
        runs(8, "REPEAT 1", "REPEAT 1", "END", "REPEAT 1", "END", "REPEAT 1", "END", "END");
        refused("REPEAT 1", "REPEAT 1", "END", "REPEAT 1", "REPEAT 1", "END", "END", "END");
        runs(8, "REPEAT 1", "REPEAT 1", "END", "END", "REPEAT 1", "REPEAT 1", "END", "END");
        refused("REPEAT 1", "END", "REPEAT 1", "REPEAT 1", "REPEAT 1", "END", "END", "END");
        // also where no run would come to
        refused("SKIPZ 0 6", "REPEAT 1", "REPEAT 1", "REPEAT 1", "END", "END", "END");
        runs(1, "SKIPZ 0 4", "REPEAT 1", "REPEAT 1", "END", "END");
        runs(3, "REPEAT 1", "SKIPZ 0 2", "REPEAT 1", "END", "END");
        refused("REPEAT 1", "SKIPZ 0 4", "REPEAT 1", "REPEAT 1", "END", "END", "END");
        everyPair();
    }

    /** As many loops as a program has room for. */
    private static void everyPair() {
        DaeProcessor p = new DaeProcessor(2, 2);
        for (int i = 0; i < 24; i += 2) {
            Assembler.append(p, i, "REPEAT 1", "END");
        }
        Check.due("12 loops side by side", p.run(), 24);
        p = Assembler.with("REPEAT 1");
        for (int i = 1; i < 23; i += 2) {
            Assembler.append(p, i, "REPEAT 1", "END");
        }
        Check.due("not yet closed", p.run(), DaeProcessor.MALFORMED);
        Assembler.append(p, 23, "END");
        Check.due("11 loops in one", p.run(), 24);
    }

    private static void skippedAreThere() {
        Check.sentence("for each SKIPZ the instructions that it may skip are all there"
            + " (the last of them may be the last of the program)");
        for (int y = 1; y <= 8; y++) {
            DaeProcessor p = Assembler.with("SKIPZ 0 " + y);
            for (int there = 0; there <= 9; there++) {
                int skipping = there < y ? DaeProcessor.MALFORMED : 1 + there - y;
                Check.due("skip of " + y + ", " + there + " are there", p.run(), skipping);
                p.setRegister(0, 1);
                int going = there < y ? DaeProcessor.MALFORMED : 1 + there;
                Check.due("no skip of " + y + ", " + there + " are there", p.run(), going);
                p.setRegister(0, 0);
                Assembler.append(p, 1 + there, "ADDI 1 1 1");
            }
        }
    }

    private static void skippedAtTheProgramsLimit() {
        Check.sentence("the last of them may be the last of the program: also of a program of 24");
        for (int y = 1; y <= 8; y++) {
            int lastGood = 24 - 1 - y;
            Check.due("SKIPZ " + y + " that skips instruction 23", runWithSkipAt(lastGood, y), lastGood + 1);
            Check.due("SKIPZ " + y + " one behind it", runWithSkipAt(lastGood + 1, y), DaeProcessor.MALFORMED);
        }
        Check.due("SKIPZ as instruction 23", runWithSkipAt(23, 1), DaeProcessor.MALFORMED);
        Check.due("SKIPZ 8 as instruction 23", runWithSkipAt(23, 8), DaeProcessor.MALFORMED);
    }

    private static int runWithSkipAt(int place, int y) {
        DaeProcessor p = new DaeProcessor(4, 1);
        for (int i = 0; i < 24; i++) {
            Assembler.append(p, i, i == place ? "SKIPZ 0 " + y : "ADDI 1 1 1");
        }
        return p.run();
    }

    private static void noEndTooEarly() {
        Check.sentence("balanced: read alone from the first to the last of them,"
            + " at no point there were more ENDs than REPEATs");
        // in all as many of the one as of the other, but the END comes first
        refused("REPEAT 1", "SKIPZ 0 2", "END", "REPEAT 1", "END");
        refused("REPEAT 1", "SKIPZ 0 3", "END", "ADD 1 1 1", "REPEAT 1", "END");
        refused("REPEAT 1", "SKIPZ 0 4", "REPEAT 1", "END", "END", "REPEAT 1", "END");
        refused("REPEAT 1", "SKIPZ 0 4", "END", "REPEAT 1", "END", "REPEAT 1", "END");
        refused("REPEAT 1", "REPEAT 1", "SKIPZ 0 4", "END", "END", "REPEAT 1", "REPEAT 1", "END", "END");
        runs(3, "REPEAT 1", "SKIPZ 0 2", "REPEAT 1", "END", "END");
        runs(3, "REPEAT 1", "SKIPZ 0 4", "REPEAT 1", "END", "REPEAT 1", "END", "END");
        runs(5, "REPEAT 1", "SKIPZ 0 2", "REPEAT 1", "END", "REPEAT 1", "END", "END");
    }

    private static void asManyOfBoth() {
        Check.sentence("and in all there are as many of the one as of the other");
        refused("SKIPZ 0 1", "REPEAT 1", "END");
        runs(1, "SKIPZ 0 2", "REPEAT 1", "END");
        runs(2, "SKIPZ 0 2", "REPEAT 1", "END", "ADD 1 1 1");
        refused("REPEAT 1", "SKIPZ 0 1", "END");
        runs(3, "REPEAT 1", "SKIPZ 0 1", "ADD 1 1 1", "END");
        refused("REPEAT 1", "SKIPZ 0 2", "ADD 1 1 1", "END");
        refused("REPEAT 1", "SKIPZ 0 2", "ADD 1 1 1", "END", "ADD 1 1 1");
        refused("SKIPZ 0 2", "REPEAT 1", "ADD 1 1 1", "END");
        runs(1, "SKIPZ 0 3", "REPEAT 1", "ADD 1 1 1", "END");
        refused("SKIPZ 0 3", "REPEAT 1", "REPEAT 1", "END", "END");
        runs(1, "SKIPZ 0 4", "REPEAT 1", "REPEAT 1", "END", "END");
        refused("SKIPZ 0 3", "REPEAT 1", "END", "REPEAT 1", "END");
        runs(1, "SKIPZ 0 8", "REPEAT 1", "REPEAT 1", "END", "END", "REPEAT 1", "REPEAT 1", "END", "END");
        refused("SKIPZ 0 7", "REPEAT 1", "REPEAT 1", "END", "END", "REPEAT 1", "REPEAT 1", "END", "END");
    }

    private static void everySkipCounts() {
        Check.sentence("for each SKIPZ");
        runs(2, "SKIPZ 0 1", "ADD 1 1 1", "SKIPZ 0 1", "ADD 1 1 1");
        refused("SKIPZ 0 1", "ADD 1 1 1", "SKIPZ 0 2", "ADD 1 1 1");
        refused("SKIPZ 0 4", "ADD 1 1 1", "SKIPZ 0 1", "ADD 1 1 1");
        // one that is always skipped, and one whose register is never 0 when it is come to
        refused("SKIPZ 0 1", "SKIPZ 0 2", "ADD 1 1 1");
        runs(2, "SKIPZ 0 1", "SKIPZ 0 1", "ADD 1 1 1");
        refused("ADDI 0 2 1", "SKIPZ 0 1");
        runs(3, "ADDI 0 2 1", "SKIPZ 0 1", "ADD 1 1 1");
        // skips that end at the same place, and one that reaches beyond another
        runs(1, "SKIPZ 0 2", "SKIPZ 0 1", "ADD 1 1 1");
        runs(3, "SKIPZ 0 1", "SKIPZ 0 2", "ADD 1 1 1", "ADD 2 2 2");
    }
}
