/** Promise 2: emit. */
public final class EmitTest {
    private static final int MIN = Integer.MIN_VALUE;
    private static final int MAX = Integer.MAX_VALUE;
    private static final int[] VALUES = {MIN, -9, -1, 0, 1, 2, 5, 6, 7, 8, 9, 10, 11, 16, 100, MAX};
    private static final int[] OPS = {MIN, -3, -2, -1, 0, 1, 2, 3, 4, 5, 6, 7, 8, 9, 10, 11, 12, MAX};

    public static void main(String[] args) {
        everyArgument();
        countsUpToFull();
        fullComesFirst();
        refusedChangesNothing();
        Check.finish();
    }

    private static void everyArgument() {
        for (int op : OPS) {
            for (int x : VALUES) {
                for (int y : VALUES) {
                    for (int z : VALUES) {
                        DaeProcessor p = new DaeProcessor(2, 2);
                        int want = PlainReading.isInstruction(op, x, y, z) ? 1 : DaeProcessor.BAD;
                        Check.due("emit(" + op + ", " + x + ", " + y + ", " + z + ")", p.emit(op, x, y, z), want);
                    }
                }
            }
        }
        // the edges once more, by hand
        one(DaeProcessor.ADD, 7, 7, 7, 1);
        one(DaeProcessor.ADD, 8, 7, 7, -1);
        one(DaeProcessor.ADD, 7, 8, 7, -1);
        one(DaeProcessor.LESS, 7, 7, 8, -1);
        one(DaeProcessor.LESS, 0, 0, -1, -1);
        one(DaeProcessor.ADDI, 7, 7, MIN, 1);
        one(DaeProcessor.ADDI, 7, 8, 0, -1);
        one(DaeProcessor.LOAD, 0, 0, MAX, 1);
        one(DaeProcessor.LOAD, -1, 0, 0, -1);
        one(DaeProcessor.STORE, 7, 0, 99, 1);
        one(DaeProcessor.STORE, 0, -1, 99, -1);
        one(DaeProcessor.SKIPZ, 7, 8, 99, 1);
        one(DaeProcessor.SKIPZ, 7, 1, -99, 1);
        one(DaeProcessor.SKIPZ, 7, 0, 0, -1);
        one(DaeProcessor.SKIPZ, 7, 9, 0, -1);
        one(DaeProcessor.SKIPZ, 8, 1, 0, -1);
        one(DaeProcessor.REPEAT, 1, 99, -99, 1);
        one(DaeProcessor.REPEAT, 6, MIN, MAX, 1);
        one(DaeProcessor.REPEAT, 0, 0, 0, -1);
        one(DaeProcessor.REPEAT, 7, 0, 0, -1);
        one(DaeProcessor.END, 99, MIN, MAX, 1);
        one(11, 0, 0, 0, -1);
        one(-1, 0, 0, 0, -1);
    }

    private static void one(int op, int x, int y, int z, int want) {
        DaeProcessor p = new DaeProcessor(1, 1);
        Check.due("alone: emit(" + op + ", " + x + ", " + y + ", " + z + ")", p.emit(op, x, y, z), want);
    }

    private static void countsUpToFull() {
        DaeProcessor p = new DaeProcessor(1, 1);
        for (int i = 1; i <= 24; i++) {
            Check.due("emit no. " + i, p.emit(DaeProcessor.ADDI, 0, 0, 1), i);
        }
        Check.due("emit no. 25", p.emit(DaeProcessor.ADDI, 0, 0, 1), DaeProcessor.FULL);
        Check.due("run of 24", p.run(), 24);
        Check.due("register(0) after 24", p.register(0), 24);
        Check.due("retract of 24", p.retract(), 23);
        Check.due("emit after retract", p.emit(DaeProcessor.ADDI, 0, 0, 1), 24);
    }

    private static void fullComesFirst() {
        DaeProcessor p = new DaeProcessor(1, 1);
        for (int i = 1; i <= 24; i++) {
            p.emit(DaeProcessor.END, 0, 0, 0);
        }
        Check.due("full, op 11", p.emit(11, 0, 0, 0), DaeProcessor.FULL);
        Check.due("full, op -1", p.emit(-1, 0, 0, 0), DaeProcessor.FULL);
        Check.due("full, bad x", p.emit(DaeProcessor.ADD, 8, 0, 0), DaeProcessor.FULL);
        Check.due("full, bad REPEAT", p.emit(DaeProcessor.REPEAT, 0, 0, 0), DaeProcessor.FULL);
        p.retract();
        Check.due("one place, op 11", p.emit(11, 0, 0, 0), DaeProcessor.BAD);
    }

    private static void refusedChangesNothing() {
        DaeProcessor p = new DaeProcessor(1, 1);
        p.emit(DaeProcessor.ADDI, 1, 1, 5);
        p.emit(DaeProcessor.STORE, 1, 8, 0);
        p.emit(99, 1, 1, 1);
        Check.due("emit after two refused", p.emit(DaeProcessor.ADDI, 2, 1, 1), 2);
        Check.due("run after two refused", p.run(), 2);
        Check.due("register(2)", p.register(2), 6);
        Check.due("memory(0)", p.memory(0), 0);
    }
}
