/** Promise 6: run, and what the section "Terms" says of instructions and well formed programs. */
public final class RunTest {
    private static final int MIN = Integer.MIN_VALUE;
    private static final int MAX = Integer.MAX_VALUE;

    // short names for programs given as rows of four
    private static final int ADD = DaeProcessor.ADD;
    private static final int SUB = DaeProcessor.SUB;
    private static final int MUL = DaeProcessor.MUL;
    private static final int XOR = DaeProcessor.XOR;
    private static final int LESS = DaeProcessor.LESS;
    private static final int ADDI = DaeProcessor.ADDI;
    private static final int LOAD = DaeProcessor.LOAD;
    private static final int STORE = DaeProcessor.STORE;
    private static final int SKIPZ = DaeProcessor.SKIPZ;
    private static final int REPEAT = DaeProcessor.REPEAT;
    private static final int END = DaeProcessor.END;

    public static void main(String[] args) {
        arithmetic();
        sourcesComeFirst();
        memoryAddresses();
        loadsAfterStores();
        skips();
        loops();
        longestRun();
        wellFormed();
        malformedChangesNothing();
        programStays();
        Check.finish();
    }

    private static DaeProcessor with(int... rows) {
        DaeProcessor p = new DaeProcessor(2, 5);
        for (int i = 0; i < rows.length; i += 4) {
            Check.due("emit of row " + i / 4, p.emit(rows[i], rows[i + 1], rows[i + 2], rows[i + 3]), i / 4 + 1);
        }
        return p;
    }

    private static void runIs(String what, int want, int... rows) {
        Check.due(what, with(rows).run(), want);
    }

    /** The operation both where the execute half does it and where the target is an address. */
    private static void gives(int op, int left, int right, int want) {
        String what = "op " + op + " of " + left + " and " + right;
        DaeProcessor p = with(op, 1, 2, 3);
        p.setRegister(2, left);
        p.setRegister(3, right);
        Check.due(what + ": run()", p.run(), 1);
        Check.due(what, p.register(1), want);
        p.emit(LOAD, 4, 1, 0);
        p.setRegister(1, 0);
        p.setMemory(want & 15, 55);
        Check.due(what + " as an address: run()", p.run(), 2);
        Check.due(what + " as an address", p.register(1), want);
        Check.due(what + " as an address: what it loads", p.register(4), 55);
        Check.due(what + ": left", p.register(2), left);
        Check.due(what + ": right", p.register(3), right);
    }

    private static void arithmetic() {
        gives(ADD, 3, 4, 7);
        gives(ADD, MAX, 1, MIN);
        gives(SUB, 3, 4, -1);
        gives(SUB, MIN, 1, MAX);
        gives(MUL, -3, 4, -12);
        gives(MUL, 65536, 65536, 0);
        gives(MUL, MIN, -1, MIN);
        gives(MUL, 123456789, 987654321, 123456789 * 987654321);
        gives(XOR, 12, 10, 6);
        gives(XOR, -1, MAX, MIN);
        gives(LESS, 3, 4, 1);
        gives(LESS, 4, 4, 0);
        gives(LESS, 4, 3, 0);
        gives(LESS, MIN, MAX, 1);
        gives(LESS, MAX, MIN, 0);
        gives(LESS, -1, 0, 1);
        addsNumber(5, -7, -2);
        addsNumber(MAX, MAX, -2);
        addsNumber(0, MIN, MIN);
    }

    private static void addsNumber(int left, int number, int want) {
        DaeProcessor p = with(ADDI, 6, 7, number);
        p.setRegister(7, left);
        Check.due("ADDI: run()", p.run(), 1);
        Check.due("ADDI of " + left + " and " + number, p.register(6), want);
        Check.due("ADDI: its source", p.register(7), left);
    }

    private static void sourcesComeFirst() {
        DaeProcessor p = with(ADD, 1, 1, 1, SUB, 2, 3, 2, MUL, 4, 4, 4, LOAD, 5, 5, 1, STORE, 6, 6, 0);
        p.setRegister(1, 21);
        p.setRegister(2, 10);
        p.setRegister(3, 3);
        p.setRegister(4, -5);
        p.setRegister(5, 8);
        p.setMemory(9, 99);
        p.setRegister(6, 18);
        Check.due("run()", p.run(), 5);
        Check.due("ADD 1 1 1", p.register(1), 42);
        Check.due("SUB 2 3 2", p.register(2), -7);
        Check.due("MUL 4 4 4", p.register(4), 25);
        Check.due("LOAD 5 5", p.register(5), 99);
        Check.due("STORE 6 6", p.memory(2), 18);
    }

    private static void memoryAddresses() {
        reaches(0, 0, 0);
        reaches(15, 0, 15);
        reaches(16, 0, 0);
        reaches(0, -1, 15);
        reaches(-1, 0, 15);
        reaches(7, 25, 0);
        reaches(MAX, 1, 0);
        reaches(MIN, -1, 15);
        reaches(MIN, MIN, 0);
        reaches(-20, 3, 15);
    }

    private static void reaches(int base, int number, int cell) {
        String what = "cell of " + base + " and " + number;
        DaeProcessor p = with(LOAD, 1, 2, number, STORE, 3, 2, number);
        p.setRegister(2, base);
        p.setRegister(3, 31);
        p.setMemory(cell, 41);
        Check.due(what + ": run()", p.run(), 2);
        Check.due(what + ": LOAD", p.register(1), 41);
        for (int c = 0; c < 16; c++) {
            Check.due(what + ": memory(" + c + ")", p.memory(c), c == cell ? 31 : 0);
        }
    }

    /** A load that must see a store whose value comes late, at every depth and latency. */
    private static void loadsAfterStores() {
        for (int depth = 1; depth <= 4; depth++) {
            for (int latency = 1; latency <= 6; latency++) {
                String what = "late store with " + depth + ", " + latency;
                DaeProcessor p = new DaeProcessor(depth, latency);
                p.setMemory(1, 6);
                p.emit(LOAD, 2, 0, 1);
                p.emit(MUL, 2, 2, 2);
                p.emit(STORE, 2, 0, 3);
                p.emit(STORE, 0, 0, 4);
                p.emit(LOAD, 3, 0, 3);
                p.emit(LOAD, 4, 3, 0);
                p.emit(STORE, 3, 0, 1);
                p.emit(STORE, 7, 0, 3);
                p.setMemory(36 & 15, 8);
                p.setMemory(3, 2);
                p.setRegister(7, 70);
                Check.due(what + ": run()", p.run(), 8);
                Check.due(what + ": register(3)", p.register(3), 36);
                Check.due(what + ": register(4), of a cell stored to since", p.register(4), 0);
                Check.due(what + ": memory(1)", p.memory(1), 36);
                Check.due(what + ": memory(3)", p.memory(3), 70);
            }
        }
    }

    private static void skips() {
        DaeProcessor p = with(SKIPZ, 0, 2, 0, ADDI, 1, 1, 1, ADDI, 2, 2, 1, ADDI, 3, 3, 1);
        Check.due("skipping 2", p.run(), 2);
        Check.due("register(1)", p.register(1), 0);
        Check.due("register(2)", p.register(2), 0);
        Check.due("register(3)", p.register(3), 1);
        p.setRegister(0, MIN);
        Check.due("skipping none", p.run(), 4);
        Check.due("register(1)", p.register(1), 1);
        Check.due("register(2)", p.register(2), 1);
        Check.due("register(3)", p.register(3), 2);
        runIs("skipping a whole loop", 1, SKIPZ, 0, 3, 0, REPEAT, 6, 0, 0, ADDI, 1, 1, 1, END, 0, 0, 0);
        runIs("skipping two loops", 2, SKIPZ, 0, 4, 0, REPEAT, 6, 0, 0, END, 0, 0, 0, REPEAT, 2, 0, 0, END, 0, 0, 0,
            ADDI, 1, 1, 1);
        runIs("skipping to the end of a loop's body", 7, REPEAT, 3, 0, 0, SKIPZ, 0, 1, 0, ADDI, 1, 1, 1, END, 0, 0, 0);
        runIs("skipping a skip", 2, SKIPZ, 0, 1, 0, SKIPZ, 0, 1, 0, ADDI, 1, 1, 1);
        skipsInAPass();
        skipsByLoadedValue();
    }

    /** Register 0 is 0 in the first pass alone. */
    private static void skipsInAPass() {
        DaeProcessor p = with(REPEAT, 4, 0, 0, SKIPZ, 0, 3, 0, REPEAT, 2, 0, 0, ADDI, 1, 1, 1, END, 0, 0, 0,
            ADDI, 0, 0, 1, END, 0, 0, 0);
        Check.due("a loop skipped in one pass", p.run(), 1 + 3 + 3 * 8);
        Check.due("register(1)", p.register(1), 6);
        Check.due("register(0)", p.register(0), 4);
    }

    private static void skipsByLoadedValue() {
        DaeProcessor p = with(STORE, 1, 7, 3, LOAD, 2, 7, 3, SKIPZ, 2, 1, 0, ADDI, 3, 3, 1);
        Check.due("a loaded 0 skips", p.run(), 3);
        p.setRegister(1, 16);
        Check.due("a loaded 16 does not", p.run(), 4);
        Check.due("register(3)", p.register(3), 1);
    }

    private static void loops() {
        runIs("an empty program", 0);
        for (int n = 1; n <= 6; n++) {
            DaeProcessor p = with(REPEAT, n, 0, 0, ADDI, 1, 1, 1, END, 0, 0, 0, ADDI, 2, 2, 1);
            Check.due("loop of " + n, p.run(), 1 + 2 * n + 1);
            Check.due("passes of " + n, p.register(1), n);
            Check.due("once after " + n, p.register(2), 1);
            runIs("empty loop of " + n, 1 + n, REPEAT, n, 0, 0, END, 0, 0, 0);
        }
        DaeProcessor p = with(REPEAT, 3, 0, 0, REPEAT, 2, 0, 0, ADDI, 1, 1, 1, END, 0, 0, 0,
            REPEAT, 5, 0, 0, ADDI, 2, 2, 1, END, 0, 0, 0, END, 0, 0, 0);
        Check.due("two loops in a loop", p.run(), 1 + 3 * (1 + 4 + 1 + 10 + 1));
        Check.due("register(1)", p.register(1), 6);
        Check.due("register(2)", p.register(2), 15);
        runIs("a loop after a loop", 1 + 2 + 1 + 3, REPEAT, 2, 0, 0, END, 0, 0, 0, REPEAT, 3, 0, 0, END, 0, 0, 0);
    }

    private static void longestRun() {
        for (int depth = 1; depth <= 4; depth++) {
            DaeProcessor p = new DaeProcessor(depth, 6);
            p.emit(REPEAT, 6, 0, 0);
            p.emit(REPEAT, 6, 0, 0);
            p.emit(ADDI, 1, 1, 1);
            p.emit(STORE, 1, 2, 0);
            for (int i = 0; i < 18; i++) {
                p.emit(LOAD, 3, 3, 0);
            }
            p.emit(END, 0, 0, 0);
            Check.due("24 instructions", p.emit(END, 0, 0, 0), 24);
            Check.due("the longest run", p.run(), 1 + 6 * (1 + 6 * 21 + 1));
            Check.due("register(1)", p.register(1), 36);
            Check.due("memory(0)", p.memory(0), 36);
        }
    }

    private static void wellFormed() {
        int no = DaeProcessor.MALFORMED;
        runIs("END alone", no, END, 0, 0, 0);
        runIs("REPEAT alone", no, REPEAT, 1, 0, 0);
        runIs("END before REPEAT", no, END, 0, 0, 0, REPEAT, 1, 0, 0);
        runIs("END too many", no, REPEAT, 1, 0, 0, END, 0, 0, 0, END, 0, 0, 0);
        runIs("END too few", no, REPEAT, 1, 0, 0, REPEAT, 1, 0, 0, END, 0, 0, 0);
        runIs("two open", 5, REPEAT, 1, 0, 0, REPEAT, 1, 0, 0, ADD, 0, 0, 0, END, 0, 0, 0, END, 0, 0, 0);
        runIs("three open", no, REPEAT, 1, 0, 0, REPEAT, 1, 0, 0, REPEAT, 1, 0, 0,
            END, 0, 0, 0, END, 0, 0, 0, END, 0, 0, 0);
        runIs("skip of nothing there", no, SKIPZ, 0, 1, 0);
        runIs("skip of the last", 1, SKIPZ, 0, 1, 0, ADD, 0, 0, 0);
        runIs("skip one past the last", no, SKIPZ, 0, 2, 0, ADD, 0, 0, 0);
        runIs("skip of a REPEAT", no, SKIPZ, 0, 1, 0, REPEAT, 1, 0, 0, END, 0, 0, 0);
        runIs("skip of an END", no, REPEAT, 1, 0, 0, SKIPZ, 0, 1, 0, END, 0, 0, 0);
        runIs("skip of END and REPEAT", no, REPEAT, 1, 0, 0, SKIPZ, 0, 2, 0, END, 0, 0, 0, REPEAT, 1, 0, 0,
            END, 0, 0, 0);
        runIs("skip of a pair", 1, SKIPZ, 0, 2, 0, REPEAT, 1, 0, 0, END, 0, 0, 0);
        runIs("skip out of a loop", no, REPEAT, 1, 0, 0, SKIPZ, 0, 2, 0, ADD, 0, 0, 0, END, 0, 0, 0, ADD, 0, 0, 0);
        runIs("skip that never happens", no, ADDI, 0, 0, 1, SKIPZ, 0, 1, 0);
        runIs("a skipped skip is looked at too", no, SKIPZ, 0, 1, 0, SKIPZ, 0, 2, 0, ADD, 0, 0, 0);
        runIs("three open where nothing comes", no, SKIPZ, 0, 6, 0, REPEAT, 1, 0, 0, REPEAT, 1, 0, 0, REPEAT, 1, 0, 0,
            END, 0, 0, 0, END, 0, 0, 0, END, 0, 0, 0);
        runIs("skip of 8", 1, SKIPZ, 0, 8, 0, ADD, 0, 0, 0, ADD, 0, 0, 0, ADD, 0, 0, 0, ADD, 0, 0, 0,
            ADD, 0, 0, 0, ADD, 0, 0, 0, ADD, 0, 0, 0, ADD, 0, 0, 0);
        runIs("skip of 8 of 7", no, SKIPZ, 0, 8, 0, ADD, 0, 0, 0, ADD, 0, 0, 0, ADD, 0, 0, 0, ADD, 0, 0, 0,
            ADD, 0, 0, 0, ADD, 0, 0, 0, ADD, 0, 0, 0);
    }

    private static void malformedChangesNothing() {
        DaeProcessor p = with(ADDI, 1, 1, 1, STORE, 1, 0, 0, REPEAT, 2, 0, 0);
        for (int r = 0; r < 8; r++) {
            p.setRegister(r, 9);
        }
        for (int cell = 0; cell < 16; cell++) {
            p.setMemory(cell, 9);
        }
        Check.due("malformed", p.run(), DaeProcessor.MALFORMED);
        Check.due("malformed again", p.run(), DaeProcessor.MALFORMED);
        Check.dueEverywhere("after malformed", p, 9);
        Check.due("the program is still there", p.emit(END, 0, 0, 0), 4);
        Check.due("and runs", p.run(), 5);
        Check.due("register(1)", p.register(1), 10);
        Check.due("memory(9)", p.memory(9), 10);
    }

    private static void programStays() {
        DaeProcessor p = with(REPEAT, 2, 0, 0, ADDI, 1, 1, 1, END, 0, 0, 0);
        for (int i = 1; i <= 10; i++) {
            Check.due("run no. " + i, p.run(), 5);
            Check.due("register(1) after run no. " + i, p.register(1), 2 * i);
        }
        Check.due("emit after the runs", p.emit(ADDI, 1, 1, 1), 4);
    }
}
