/** Promise 9: addressSide. */
public final class AddressSideTest {
    public static void main(String[] args) {
        roots();
        sources();
        chains();
        malformed();
        leavesAllAsItIs();
        Check.finish();
    }

    private static void sideIs(String what, int want, int... rows) {
        DaeProcessor p = new DaeProcessor(3, 3);
        for (int i = 0; i < rows.length; i += 4) {
            p.emit(rows[i], rows[i + 1], rows[i + 2], rows[i + 3]);
        }
        Check.due(what, p.addressSide(), want);
    }

    private static int set(int... registers) {
        int set = 0;
        for (int r : registers) {
            set |= 1 << r;
        }
        return set;
    }

    private static void roots() {
        sideIs("nothing", 0);
        sideIs("no address", 0, DaeProcessor.ADD, 1, 2, 3, DaeProcessor.ADDI, 4, 5, 6);
        for (int r = 0; r < 8; r++) {
            int other = 7 - r;
            sideIs("LOAD by " + r, set(r), DaeProcessor.LOAD, other, r, 3);
            sideIs("STORE by " + r, set(r), DaeProcessor.STORE, other, r, 3);
            sideIs("SKIPZ by " + r, set(r), DaeProcessor.SKIPZ, r, 4, 3);
        }
        sideIs("arguments of REPEAT and END", 0, DaeProcessor.REPEAT, 3, 1, 2, DaeProcessor.END, 4, 5, 6);
    }

    private static void sources() {
        for (int op = DaeProcessor.ADD; op <= DaeProcessor.LESS; op++) {
            sideIs("both sources of op " + op, set(1, 2, 3), op, 1, 2, 3, DaeProcessor.LOAD, 7, 1, 0);
            sideIs("another target of op " + op, set(1), op, 4, 2, 3, DaeProcessor.LOAD, 7, 1, 0);
        }
        sideIs("ADDI: y alone", set(1, 2), DaeProcessor.ADDI, 1, 2, 3, DaeProcessor.STORE, 7, 1, 0);
        sideIs("LOAD: y alone", set(1, 2), DaeProcessor.LOAD, 1, 2, 3, DaeProcessor.STORE, 7, 1, 0);
        sideIs("STORE has no target", set(2, 5), DaeProcessor.STORE, 2, 5, 3, DaeProcessor.SKIPZ, 2, 1, 0);
        sideIs("STORE reads x as no address", set(5), DaeProcessor.STORE, 2, 5, 0, DaeProcessor.ADD, 2, 3, 4);
        sideIs("SKIPZ's y is a number", set(1), DaeProcessor.SKIPZ, 1, 2, 0, DaeProcessor.ADD, 2, 3, 4);
        sideIs("an address after its use", set(1, 2, 3), DaeProcessor.LOAD, 7, 1, 0, DaeProcessor.ADD, 1, 2, 3);
    }

    private static void chains() {
        sideIs("a chain forwards", 255, DaeProcessor.ADDI, 1, 0, 0, DaeProcessor.ADDI, 2, 1, 0,
            DaeProcessor.ADDI, 3, 2, 0, DaeProcessor.ADDI, 4, 3, 0, DaeProcessor.ADDI, 5, 4, 0,
            DaeProcessor.ADDI, 6, 5, 0, DaeProcessor.ADDI, 7, 6, 0, DaeProcessor.SKIPZ, 7, 1, 0);
        sideIs("a chain backwards", 255, DaeProcessor.SKIPZ, 7, 1, 0, DaeProcessor.ADDI, 7, 6, 0,
            DaeProcessor.ADDI, 6, 5, 0, DaeProcessor.ADDI, 5, 4, 0, DaeProcessor.ADDI, 4, 3, 0,
            DaeProcessor.ADDI, 3, 2, 0, DaeProcessor.ADDI, 2, 1, 0, DaeProcessor.ADDI, 1, 0, 0);
        sideIs("a ring", set(1, 2), DaeProcessor.ADDI, 1, 2, 0, DaeProcessor.ADDI, 2, 1, 0,
            DaeProcessor.LOAD, 5, 1, 0);
        sideIs("a ring beside", set(6), DaeProcessor.ADDI, 1, 2, 0, DaeProcessor.ADDI, 2, 1, 0,
            DaeProcessor.LOAD, 5, 6, 0);
        sideIs("an overwritten address counts", set(1, 2, 3), DaeProcessor.ADDI, 1, 2, 0,
            DaeProcessor.ADDI, 1, 3, 0, DaeProcessor.LOAD, 5, 1, 0);
    }

    private static void malformed() {
        sideIs("with a lone END", set(4), DaeProcessor.END, 0, 0, 0, DaeProcessor.LOAD, 5, 4, 0);
        sideIs("with a lone REPEAT", set(4), DaeProcessor.REPEAT, 2, 0, 0, DaeProcessor.STORE, 5, 4, 0);
        sideIs("with a skip past the end", set(3, 4), DaeProcessor.ADDI, 4, 3, 0, DaeProcessor.SKIPZ, 4, 8, 0);
    }

    private static void leavesAllAsItIs() {
        DaeProcessor p = new DaeProcessor(1, 1);
        p.emit(DaeProcessor.LOAD, 1, 0, 0);
        p.setMemory(0, 5);
        Check.due("before a run", p.addressSide(), 1);
        Check.due("run()", p.run(), 1);
        Check.due("after a run", p.addressSide(), 1);
        Check.due("register(1)", p.register(1), 5);
        p.emit(DaeProcessor.STORE, 0, 6, 0);
        Check.due("after an emit", p.addressSide(), 65);
        p.clear();
        Check.due("after clear", p.addressSide(), 0);
    }
}
