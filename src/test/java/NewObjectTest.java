/** Promise 1: a new object is empty, and depth and latency never show. */
public final class NewObjectTest {
    private static final int[] SIZES = {
        Integer.MIN_VALUE, -1, 0, 1, 2, 3, 4, 5, 6, 7, 100, Integer.MAX_VALUE
    };

    public static void main(String[] args) {
        for (int depth : SIZES) {
            for (int latency : SIZES) {
                isEmpty(depth, latency);
                runsAlike(depth, latency);
                fillsTheQueues(depth, latency);
            }
        }
        objectsAreApart();
        Check.finish();
    }

    private static void isEmpty(int depth, int latency) {
        String what = "new(" + depth + ", " + latency + ")";
        DaeProcessor p = new DaeProcessor(depth, latency);
        Check.dueEverywhere(what, p, 0);
        Check.due(what + ": addressSide()", p.addressSide(), 0);
        Check.due(what + ": run()", p.run(), 0);
        Check.due(what + ": retract()", p.retract(), DaeProcessor.BAD);
        Check.due(what + ": emit()", p.emit(DaeProcessor.END, 0, 0, 0), 1);
    }

    private static void runsAlike(int depth, int latency) {
        String what = "sum with " + depth + ", " + latency;
        DaeProcessor p = new DaeProcessor(depth, latency);
        for (int cell = 0; cell < 16; cell++) {
            p.setMemory(cell, cell * cell + 1);
        }
        p.emit(DaeProcessor.REPEAT, 6, 0, 0);
        p.emit(DaeProcessor.LOAD, 2, 1, 0);
        p.emit(DaeProcessor.ADD, 3, 3, 2);
        p.emit(DaeProcessor.STORE, 3, 1, 1);
        p.emit(DaeProcessor.ADDI, 1, 1, 1);
        p.emit(DaeProcessor.END, 0, 0, 0);
        Check.due(what + ": run()", p.run(), 31);
        // each pass loads the sum that the pass before stored: 1, 2, 4, 8, ...
        Check.due(what + ": register(2)", p.register(2), 16);
        Check.due(what + ": register(3)", p.register(3), 32);
        Check.due(what + ": memory(6)", p.memory(6), 32);
        Check.due(what + ": memory(7)", p.memory(7), 50);
    }

    /** More loads and stores in a row than any queue has places, first loads, then stores. */
    private static void fillsTheQueues(int depth, int latency) {
        String what = "rows with " + depth + ", " + latency;
        DaeProcessor p = new DaeProcessor(depth, latency);
        for (int i = 0; i < 7; i++) {
            p.setMemory(i, 10 + i);
            p.emit(DaeProcessor.LOAD, 1 + i, 0, i);
        }
        for (int i = 0; i < 7; i++) {
            p.emit(DaeProcessor.STORE, 7 - i, 0, i);
        }
        for (int i = 0; i < 7; i++) {
            p.emit(DaeProcessor.LOAD, 1 + i, 0, i);
        }
        Check.due(what + ": run()", p.run(), 21);
        for (int i = 0; i < 7; i++) {
            Check.due(what + ": memory(" + i + ")", p.memory(i), 16 - i);
            Check.due(what + ": register(" + (1 + i) + ")", p.register(1 + i), 16 - i);
        }
    }

    private static void objectsAreApart() {
        DaeProcessor one = new DaeProcessor(1, 1);
        DaeProcessor other = new DaeProcessor(1, 1);
        one.setRegister(0, 5);
        one.setMemory(0, 6);
        one.emit(DaeProcessor.ADDI, 0, 0, 1);
        Check.due("the other's run()", other.run(), 0);
        Check.due("the other's register(0)", other.register(0), 0);
        Check.due("the other's memory(0)", other.memory(0), 0);
    }
}
