import java.lang.reflect.Field;

/**
 * The one test that looks inside the object: no answer shows the depth of the queues and the latency
 * of loads, but the cycle at which a run ends does. The document leaves the inside free, so that a
 * class that is made in another way is not tested here.
 */
public final class InsideTest {
    private static final int MIN = Integer.MIN_VALUE;
    private static final int MAX = Integer.MAX_VALUE;
    private static final int[] SIZES = {MIN, -1, 0, 1, 2, 3, 4, 5, 6, 7, 8, MAX};
    private static final String[] FIELDS = {"cycle", "queueDepth", "loadLatency", "operandCount", "storeCount"};

    public static void main(String[] args) throws Exception {
        if (!isMadeThisWay()) {
            System.out.println("the class is made in another way: nothing to look at");
            return;
        }
        operandQueueDepth();
        storeQueueDepth();
        loadLatency();
        Check.finish();
    }

    private static boolean isMadeThisWay() {
        for (String name : FIELDS) {
            try {
                if (DaeProcessor.class.getDeclaredField(name).getType() != int.class) {
                    return false;
                }
            } catch (NoSuchFieldException missing) {
                return false;
            }
        }
        return true;
    }

    private static int lastCycle(DaeProcessor p) throws Exception {
        p.run();
        Field cycle = DaeProcessor.class.getDeclaredField("cycle");
        cycle.setAccessible(true);
        return cycle.getInt(p);
    }

    /** The last cycle of a run, and of a second run, with latency 6 at depths 1, 2, 3 and 4. */
    private static void lastCycles(int[] due, String... lines) throws Exception {
        for (int depth : SIZES) {
            int want = depth < 1 ? due[0] : depth > 4 ? due[3] : due[depth - 1];
            DaeProcessor p = new DaeProcessor(depth, 6);
            Assembler.append(p, 0, lines);
            for (int run = 1; run <= 2; run++) {
                // not 0, so that no skip is taken
                p.setRegister(2, 1);
                String what = "last cycle of run " + run + " of " + lines[1] + " ... with depth " + depth;
                Check.due(what, lastCycle(p), want);
            }
        }
    }

    private static void operandQueueDepth() throws Exception {
        Check.sentence("The queues between the two halves hold depth places each, clamped into 1..4 (operands)");
        // with d places, d loads are under way at once
        String[] loads = new String[12];
        for (int i = 0; i < 12; i++) {
            loads[i] = "LOAD 1 0 " + i;
        }
        lastCycles(new int[] {72, 37, 26, 21}, loads);
        // behind a slow load, the access half gets past d - 1 results of its own
        lastCycles(new int[] {16, 15, 14, 13}, "LOAD 6 0 0", "ADDI 1 1 1", "ADDI 1 1 1", "ADDI 1 1 1", "ADDI 1 1 1",
            "LOAD 7 1 0");
        lastCycles(new int[] {16, 15, 14, 13}, "LOAD 6 0 0", "SKIPZ 2 1", "SKIPZ 2 1", "SKIPZ 2 1", "SKIPZ 2 1",
            "LOAD 7 0 0");
    }

    private static void storeQueueDepth() throws Exception {
        Check.sentence("The queues between the two halves hold depth places each, clamped into 1..4 (stores)");
        // behind a slow load, the access half gets past d stores
        lastCycles(new int[] {16, 15, 14, 11}, "LOAD 1 0 0", "STORE 2 0 1", "STORE 2 0 2", "STORE 2 0 3",
            "STORE 2 0 4", "LOAD 3 0 5");
    }

    /** Four loads of which each waits for the one before. */
    private static void loadLatency() throws Exception {
        Check.sentence("a load takes latency cycles, clamped into 1..6");
        int[][] due = {{MIN, 4}, {-1, 4}, {0, 4}, {1, 4}, {2, 8}, {3, 12}, {4, 16}, {5, 20}, {6, 24}, {7, 24},
            {8, 24}, {MAX, 24}};
        for (int depth = 1; depth <= 4; depth++) {
            for (int[] row : due) {
                DaeProcessor p = new DaeProcessor(depth, row[0]);
                Assembler.append(p, 0, "LOAD 1 1 0", "LOAD 1 1 0", "LOAD 1 1 0", "LOAD 1 1 0");
                Check.due("last cycle with latency " + row[0], lastCycle(p), row[1]);
                Check.due("last cycle of the next run", lastCycle(p), row[1]);
            }
        }
    }
}
