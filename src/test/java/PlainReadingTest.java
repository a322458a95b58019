import java.util.Arrays;

/** All promises at once: many made-up runs of calls, each answer compared with the plain reading. */
public final class PlainReadingTest {
    private static final int OBJECTS = 40000;
    // An object answers for 512 calls; a step takes at most 41 of them.
    private static final int CALLS = 512 - 41;
    private static final int[] ODD = {Integer.MIN_VALUE, -2, -1, 8, 9, 16, 17, Integer.MAX_VALUE};

    private static long seed = 20261115L;
    private static int ranWell = 0;
    private static int calls = 0;

    public static void main(String[] args) {
        for (int i = 0; i < OBJECTS; i++) {
            compare(i);
        }
        System.out.println(ranWell + " runs of well formed programs that are not empty");
        Check.due("there were enough of them", ranWell > OBJECTS, true);
        Check.finish();
    }

    /** A number from 0 to below - 1, the same ones at every start. */
    private static int below(int below) {
        seed = seed * 6364136223846793005L + 1442695040888963407L;
        return (int) ((seed >>> 33) % below);
    }

    private static int someNumber() {
        int kind = below(8);
        return kind == 0 ? ODD[below(ODD.length)] : kind == 1 ? below(1 << 30) * 4 + below(4) : below(20) - 4;
    }

    private static int someRegister(int spread) {
        return below(60) == 0 ? ODD[below(ODD.length)] : below(spread);
    }

    private static void compare(int number) {
        DaeProcessor p = new DaeProcessor(below(7) - 1, below(9) - 1);
        PlainReading plain = new PlainReading();
        // few registers make more of the instructions touch each other
        int spread = 2 + below(7);
        calls = 0;
        while (calls <= CALLS) {
            calls++;
            String what = "object " + number + ", call " + calls;
            int kind = below(20);
            if (kind < 10) {
                emitSome(what, p, plain, spread);
            } else if (kind < 12) {
                Check.due(what + " retract()", p.retract(), plain.retract());
            } else if (kind < 14) {
                int r = someRegister(8);
                int v = someNumber();
                Check.due(what + " setRegister()", p.setRegister(r, v), put(plain.register, r, v));
            } else if (kind < 16) {
                int cell = below(18) - 1;
                int v = someNumber();
                Check.due(what + " setMemory()", p.setMemory(cell, v), put(plain.memory, cell, v));
            } else if (kind < 19) {
                runBoth(what, p, plain);
                same(what, p, plain);
            } else if (below(6) == 0) {
                p.clear();
                plain.program.clear();
                Arrays.fill(plain.register, 0);
                Arrays.fill(plain.memory, 0);
                same(what, p, plain);
            } else {
                Check.due(what + " addressSide()", p.addressSide(), plain.addressSide());
            }
        }
    }

    private static boolean put(int[] places, int at, int v) {
        if (at < 0 || at >= places.length) {
            return false;
        }
        places[at] = v;
        return true;
    }

    private static void emitSome(String what, DaeProcessor p, PlainReading plain, int spread) {
        int op = below(12) == 0 ? below(14) - 2 : below(8);
        int loop = below(10);
        if (loop == 0) {
            emitLoop(what, p, plain, spread);
            return;
        }
        if (loop == 1) {
            op = DaeProcessor.SKIPZ;
        }
        int y = op == DaeProcessor.SKIPZ ? below(4) : someRegister(spread);
        int z = op >= DaeProcessor.ADDI ? someNumber() : someRegister(spread);
        emitBoth(what, p, plain, new int[] {op, someRegister(spread), y, z});
    }

    /** A loop that is whole, with some instructions in it, and sometimes with a loop in it. */
    private static void emitLoop(String what, DaeProcessor p, PlainReading plain, int spread) {
        boolean nested = below(2) == 0;
        emitBoth(what, p, plain, new int[] {DaeProcessor.REPEAT, 1 + below(6), 0, 0});
        emitBody(what, p, plain, spread);
        if (nested) {
            emitBoth(what, p, plain, new int[] {DaeProcessor.REPEAT, 1 + below(6), 0, 0});
            emitBody(what, p, plain, spread);
            emitBoth(what, p, plain, new int[] {DaeProcessor.END, below(99), 0, 0});
        }
        emitBody(what, p, plain, spread);
        emitBoth(what, p, plain, new int[] {DaeProcessor.END, 0, below(99), 0});
    }

    private static void emitBody(String what, DaeProcessor p, PlainReading plain, int spread) {
        int size = below(5);
        for (int left = size; left > 0; left--) {
            boolean skip = left > 1 && below(4) == 0;
            int op = skip ? DaeProcessor.SKIPZ : below(8);
            int y = skip ? 1 + below(left - 1) : below(spread);
            int z = op >= DaeProcessor.ADDI ? someNumber() : below(spread);
            emitBoth(what, p, plain, new int[] {op, below(spread), y, z});
        }
    }

    private static void emitBoth(String what, DaeProcessor p, PlainReading plain, int[] i) {
        calls++;
        Check.due(what + " emit()", p.emit(i[0], i[1], i[2], i[3]), plain.emit(i[0], i[1], i[2], i[3]));
    }

    private static void runBoth(String what, DaeProcessor p, PlainReading plain) {
        int want = plain.run();
        Check.due(what + " run()", p.run(), want);
        ranWell += want > 0 ? 1 : 0;
    }

    private static void same(String what, DaeProcessor p, PlainReading plain) {
        calls += 25;
        for (int r = 0; r < 8; r++) {
            Check.due(what + " register(" + r + ")", p.register(r), plain.register[r]);
        }
        for (int cell = 0; cell < 16; cell++) {
            Check.due(what + " memory(" + cell + ")", p.memory(cell), plain.memory[cell]);
        }
        Check.due(what + " addressSide()", p.addressSide(), plain.addressSide());
    }
}
