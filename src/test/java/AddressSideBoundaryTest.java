/** Promise 9 and "Terms", THE ADDRESS SIDE: each boundary sentence with a test of its own. */
public final class AddressSideBoundaryTest {
    public static void main(String[] args) {
        addresses();
        bothSources();
        firstSourceAlone();
        smallest();
        presentProgram();
        wellFormedOrNot();
        bits();
        Check.finish();
    }

    private static void sideIs(int want, String... lines) {
        Check.due("side of " + String.join(", ", lines), Assembler.with(lines).addressSide(), want);
    }

    private static void addresses() {
        Check.sentence("register y of every LOAD and STORE and register x of every SKIPZ of the program");
        for (int r = 0; r < 8; r++) {
            int other = (r + 3) % 8;
            sideIs(1 << r, "LOAD " + other + " " + r + " 5");
            sideIs(1 << r, "STORE " + other + " " + r + " 5");
            sideIs(1 << r, "SKIPZ " + r + " 8");
        }
        sideIs(255, "LOAD 1 0 0", "STORE 1 1 0", "SKIPZ 2 1", "LOAD 1 3 0", "STORE 1 4 0", "SKIPZ 5 1", "LOAD 1 6 0",
            "STORE 1 7 0");
        // the last of a program of 24
        DaeProcessor p = new DaeProcessor(1, 1);
        for (int i = 0; i < 23; i++) {
            Assembler.append(p, i, "ADD 1 2 3");
        }
        Check.due("23 without an address", p.addressSide(), 0);
        Assembler.append(p, 23, "STORE 5 4 0");
        Check.due("an address in the 24th", p.addressSide(), 16);
        p.retract();
        Assembler.append(p, 23, "SKIPZ 1 1");
        Check.due("a chain from the 24th", p.addressSide(), 2 + 4 + 8);
    }

    private static void bothSources() {
        Check.sentence("with the target x of an ADD, SUB, MUL, XOR, LESS also every register that it reads (y and z)");
        for (String op : new String[] {"ADD", "SUB", "MUL", "XOR", "LESS"}) {
            sideIs(2 + 4 + 8, op + " 1 2 3", "LOAD 7 1 0");
            sideIs(2 + 4 + 8, "LOAD 7 1 0", op + " 1 2 3");
            sideIs(2 + 4, op + " 1 2 1", "LOAD 7 1 0");
            sideIs(2 + 8, op + " 1 1 3", "LOAD 7 1 0");
            sideIs(2, op + " 1 1 1", "LOAD 7 1 0");
            sideIs(2, op + " 4 2 3", "LOAD 7 1 0");
            sideIs(1 + 128, op + " 0 7 0", "SKIPZ 0 1");
        }
    }

    private static void firstSourceAlone() {
        Check.sentence("y alone for ADDI and LOAD");
        for (String z : new String[] {"3", "0", "7", "8", "33", "-1", "-2147483648", "2147483647"}) {
            sideIs(2 + 4, "ADDI 1 2 " + z, "STORE 7 1 0");
            sideIs(2 + 4, "LOAD 1 2 " + z, "STORE 7 1 0");
            sideIs(2, "ADDI 1 1 " + z, "STORE 7 1 0");
            sideIs(2, "LOAD 1 1 " + z);
            sideIs(2, "STORE 3 1 " + z);
        }
    }

    private static void smallest() {
        Check.sentence("THE ADDRESS SIDE is the smallest set of registers");
        sideIs(0);
        sideIs(0, "ADD 1 2 3", "ADDI 4 5 6", "REPEAT 6", "END", "LESS 7 0 1");
        sideIs(1, "STORE 3 0 0", "ADD 3 4 5");
        sideIs(1, "LOAD 3 0 0", "ADD 4 3 3");
        sideIs(1, "SKIPZ 0 3", "ADD 3 1 2");
        // a ring of registers apart from the addresses, and the same ring with an address in it
        sideIs(1, "ADDI 1 2 0", "ADDI 2 3 0", "ADDI 3 1 0", "LOAD 7 0 0");
        sideIs(1 + 2 + 4 + 8, "ADDI 1 2 0", "ADDI 2 3 0", "ADDI 3 1 0", "LOAD 7 0 0", "LOAD 7 3 0");
        // chains as long as there are registers, in the order that needs most looks and the one that needs least
        sideIs(255, "ADDI 1 0 0", "ADDI 2 1 0", "ADDI 3 2 0", "ADDI 4 3 0", "ADDI 5 4 0", "ADDI 6 5 0", "ADDI 7 6 0",
            "SKIPZ 7 1");
        sideIs(255, "SKIPZ 7 1", "ADDI 7 6 0", "ADDI 6 5 0", "ADDI 5 4 0", "ADDI 4 3 0", "ADDI 3 2 0", "ADDI 2 1 0",
            "ADDI 1 0 0");
        sideIs(254, "ADDI 2 1 0", "ADDI 3 2 0", "ADDI 4 3 0", "ADDI 5 4 0", "ADDI 6 5 0", "ADDI 7 6 0", "SKIPZ 7 1");
    }

    private static void presentProgram() {
        Check.sentence("The address side of the present program");
        DaeProcessor p = new DaeProcessor(1, 1);
        Check.due("of none", p.addressSide(), 0);
        Assembler.append(p, 0, "ADDI 1 2 0");
        Check.due("of one", p.addressSide(), 0);
        Assembler.append(p, 1, "LOAD 3 1 0");
        Check.due("of two", p.addressSide(), 2 + 4);
        p.run();
        Check.due("of two after a run", p.addressSide(), 2 + 4);
        p.retract();
        Check.due("of one again", p.addressSide(), 0);
        p.run();
        Check.due("of one after a run", p.addressSide(), 0);
        Assembler.append(p, 1, "SKIPZ 5 1", "STORE 0 6 0");
        Check.due("refused", Assembler.emit(p, "LOAD 0 8 0"), DaeProcessor.BAD);
        Check.due("of three", p.addressSide(), 32 + 64);
        p.clear();
        Check.due("of none again", p.addressSide(), 0);
    }

    private static void wellFormedOrNot() {
        Check.sentence("well formed or not");
        sideIs(16, "END", "LOAD 5 4 0");
        sideIs(16, "LOAD 5 4 0", "END");
        sideIs(16, "REPEAT 2", "LOAD 5 4 0");
        sideIs(16, "REPEAT 2", "LOAD 5 4 0", "END");
        sideIs(16, "REPEAT 2", "REPEAT 2", "REPEAT 2", "LOAD 5 4 0", "END", "END", "END");
        sideIs(16 + 8, "ADDI 4 3 0", "SKIPZ 4 1");
        sideIs(16 + 8, "ADDI 4 3 0", "SKIPZ 4 1", "ADD 0 0 0");
        sideIs(16, "SKIPZ 4 1", "REPEAT 1", "END");
        sideIs(16, "SKIPZ 4 2", "REPEAT 1", "END");
    }

    private static void bits() {
        Check.sentence("bit r (value 1 << r) speaks of register r");
        int[] values = {1, 2, 4, 8, 16, 32, 64, 128};
        for (int r = 0; r < 8; r++) {
            sideIs(values[r], "SKIPZ " + r + " 1");
            for (int other = 0; other < 8; other++) {
                sideIs(values[r] | values[other], "LOAD 0 " + r + " 0", "STORE 0 " + other + " 0",
                    "SKIPZ " + r + " 1", "ADD 0 0 0");
            }
        }
    }
}
