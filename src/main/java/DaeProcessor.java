public final class DaeProcessor {
    public static final int ADD = 0;
    public static final int SUB = 1;
    public static final int MUL = 2;
    public static final int XOR = 3;
    public static final int LESS = 4;
    public static final int ADDI = 5;
    public static final int LOAD = 6;
    public static final int STORE = 7;
    public static final int SKIPZ = 8;
    public static final int REPEAT = 9;
    public static final int END = 10;
    public static final int BAD = -1;
    public static final int FULL = -2;
    public static final int MALFORMED = -3;

    private static final int REGISTER_COUNT = 8;
    private static final int CELL_COUNT = 16;
    private static final int PROGRAM_LIMIT = 24;
    private static final int SKIP_LIMIT = 8;
    private static final int PASS_LIMIT = 6;
    private static final int OPEN_LIMIT = 2;
    private static final int DEPTH_LIMIT = 4;
    private static final int LATENCY_LIMIT = 6;

    // A program comes to fewer than 24 * 6 * 6 instructions and none of them holds the halves up
    // for longer than a load, so that no run comes near this many cycles.
    private static final int CYCLE_LIMIT = 1000000;

    private static final int HALF_COUNT = 2;
    private static final int ACCESS = 0;
    private static final int EXECUTE = 1;
    private static final int LOOP_PLACES = HALF_COUNT * OPEN_LIMIT;

    private final int queueDepth;
    private final int loadLatency;

    private final int[] opOf = new int[PROGRAM_LIMIT];
    private final int[] xOf = new int[PROGRAM_LIMIT];
    private final int[] yOf = new int[PROGRAM_LIMIT];
    private final int[] zOf = new int[PROGRAM_LIMIT];
    private int length;

    // The execute half works on these; between runs they are the registers that callers see.
    private final int[] registers = new int[REGISTER_COUNT];
    private final int[] cells = new int[CELL_COUNT];

    // During a run the access half keeps its own values of the address side, since it may be some
    // instructions away from the execute half. Its other registers grow stale and are never read.
    private final int[] accessRegisters = new int[REGISTER_COUNT];
    private int runSide;
    private int accessBusyUntil;
    private int cycle;
    private int executed;

    // Each half walks through the program by itself: its place, and a stack of its open loops.
    private final int[] position = new int[HALF_COUNT];
    private final int[] openLoops = new int[HALF_COUNT];
    private final int[] loopStart = new int[LOOP_PLACES];
    private final int[] passesLeft = new int[LOOP_PLACES];

    // What the access half has found out for the execute half, in program order.
    private final int[] operandValue = new int[DEPTH_LIMIT];
    private final int[] operandArrival = new int[DEPTH_LIMIT];
    private int operandHead;
    private int operandCount;

    // The cells of stores whose values the execute half has still to give, in program order.
    private final int[] storeCell = new int[DEPTH_LIMIT];
    private int storeHead;
    private int storeCount;

    public DaeProcessor(int depth, int latency) {
        queueDepth = clamped(depth, DEPTH_LIMIT);
        loadLatency = clamped(latency, LATENCY_LIMIT);
    }

    public int emit(int op, int x, int y, int z) {
        if (length >= PROGRAM_LIMIT) {
            return FULL;
        }
        if (!isInstruction(op, x, y, z)) {
            return BAD;
        }
        opOf[length] = op;
        xOf[length] = x;
        yOf[length] = y;
        zOf[length] = z;
        length++;
        return length;
    }

    public int retract() {
        if (length == 0) {
            return BAD;
        }
        length--;
        return length;
    }

    public boolean setRegister(int r, int v) {
        if (!isRegister(r)) {
            return false;
        }
        registers[r] = v;
        return true;
    }

    public boolean setMemory(int cell, int v) {
        if (!isCell(cell)) {
            return false;
        }
        cells[cell] = v;
        return true;
    }

    public int run() {
        if (!isWellFormed()) {
            return MALFORMED;
        }
        startRun();
        for (int now = 0; now < CYCLE_LIMIT && isRunning(); now++) {
            cycle = now;
            stepExecute();
            stepAccess();
        }
        return executed;
    }

    public int register(int r) {
        return isRegister(r) ? registers[r] : 0;
    }

    public int memory(int cell) {
        return isCell(cell) ? cells[cell] : 0;
    }

    public int addressSide() {
        int side = 0;
        for (int at = 0; at < length; at++) {
            side |= addressRegisterOf(at);
        }
        // A round that is not the last adds a register, so that there are never more rounds to do
        // than registers.
        for (int round = 0; round < REGISTER_COUNT; round++) {
            for (int at = 0; at < length; at++) {
                if (hasTarget(at) && isInSet(side, xOf[at])) {
                    side |= sourcesOf(at);
                }
            }
        }
        return side;
    }

    public void clear() {
        length = 0;
        for (int r = 0; r < REGISTER_COUNT; r++) {
            registers[r] = 0;
        }
        for (int cell = 0; cell < CELL_COUNT; cell++) {
            cells[cell] = 0;
        }
    }

    private static int clamped(int value, int limit) {
        if (value < 1) {
            return 1;
        }
        return value > limit ? limit : value;
    }

    private static boolean isRegister(int r) {
        return r >= 0 && r < REGISTER_COUNT;
    }

    private static boolean isCell(int cell) {
        return cell >= 0 && cell < CELL_COUNT;
    }

    private static boolean isInSet(int set, int r) {
        return ((set >> r) & 1) != 0;
    }

    private static boolean isInstruction(int op, int x, int y, int z) {
        switch (op) {
            case ADD:
            case SUB:
            case MUL:
            case XOR:
            case LESS:
                return isRegister(x) && isRegister(y) && isRegister(z);
            case ADDI:
            case LOAD:
            case STORE:
                return isRegister(x) && isRegister(y);
            case SKIPZ:
                return isRegister(x) && y >= 1 && y <= SKIP_LIMIT;
            case REPEAT:
                return x >= 1 && x <= PASS_LIMIT;
            case END:
                return true;
            default:
                return false;
        }
    }

    private boolean hasTarget(int at) {
        return opOf[at] <= LOAD;
    }

    private int addressRegisterOf(int at) {
        if (opOf[at] == LOAD || opOf[at] == STORE) {
            return 1 << yOf[at];
        }
        return opOf[at] == SKIPZ ? 1 << xOf[at] : 0;
    }

    private int sourcesOf(int at) {
        int first = 1 << yOf[at];
        return opOf[at] <= LESS ? first | (1 << zOf[at]) : first;
    }

    private boolean isWellFormed() {
        int open = 0;
        for (int at = 0; at < length; at++) {
            open += loopChange(at);
            if (open < 0 || open > OPEN_LIMIT) {
                return false;
            }
            if (opOf[at] == SKIPZ && !canSkip(at)) {
                return false;
            }
        }
        return open == 0;
    }

    private boolean canSkip(int skip) {
        int last = skip + yOf[skip];
        if (last >= length) {
            return false;
        }
        int open = 0;
        for (int at = skip + 1; at <= last; at++) {
            open += loopChange(at);
            if (open < 0) {
                return false;
            }
        }
        return open == 0;
    }

    private int loopChange(int at) {
        if (opOf[at] == REPEAT) {
            return 1;
        }
        return opOf[at] == END ? -1 : 0;
    }

    private void startRun() {
        runSide = addressSide();
        for (int r = 0; r < REGISTER_COUNT; r++) {
            accessRegisters[r] = registers[r];
        }
        for (int half = 0; half < HALF_COUNT; half++) {
            position[half] = 0;
            openLoops[half] = 0;
        }
        operandHead = 0;
        operandCount = 0;
        storeHead = 0;
        storeCount = 0;
        accessBusyUntil = 0;
        executed = 0;
    }

    private boolean isRunning() {
        return position[ACCESS] < length || position[EXECUTE] < length;
    }

    private void stepAccess() {
        int at = position[ACCESS];
        if (at >= length || cycle < accessBusyUntil) {
            return;
        }
        switch (opOf[at]) {
            case LOAD:
                accessLoad(at);
                break;
            case STORE:
                accessStore(at);
                break;
            case SKIPZ:
                accessSkip(at);
                break;
            case REPEAT:
                passRepeat(ACCESS, at);
                break;
            case END:
                passEnd(ACCESS, at);
                break;
            default:
                accessCompute(at);
                break;
        }
    }

    private void accessLoad(int at) {
        int cell = accessedCell(at);
        // A store to the same cell that waits for its value comes before this load.
        if (operandCount >= queueDepth || isStorePending(cell)) {
            return;
        }
        int arrival = cycle + loadLatency;
        sendOperand(cells[cell], arrival);
        if (isInSet(runSide, xOf[at])) {
            accessRegisters[xOf[at]] = cells[cell];
            accessBusyUntil = arrival;
        }
        position[ACCESS] = at + 1;
    }

    private void accessStore(int at) {
        if (storeCount >= queueDepth) {
            return;
        }
        int tail = (storeHead + storeCount) % DEPTH_LIMIT;
        storeCell[tail] = accessedCell(at);
        storeCount++;
        position[ACCESS] = at + 1;
    }

    private void accessSkip(int at) {
        if (operandCount >= queueDepth) {
            return;
        }
        int skipped = accessRegisters[xOf[at]] == 0 ? yOf[at] : 0;
        sendOperand(skipped, cycle);
        position[ACCESS] = at + 1 + skipped;
    }

    private void accessCompute(int at) {
        if (isInSet(runSide, xOf[at])) {
            if (operandCount >= queueDepth) {
                return;
            }
            int value = computed(at, accessRegisters);
            accessRegisters[xOf[at]] = value;
            sendOperand(value, cycle);
        }
        position[ACCESS] = at + 1;
    }

    private int accessedCell(int at) {
        return (accessRegisters[yOf[at]] + zOf[at]) & (CELL_COUNT - 1);
    }

    private boolean isStorePending(int cell) {
        for (int i = 0; i < storeCount; i++) {
            if (storeCell[(storeHead + i) % DEPTH_LIMIT] == cell) {
                return true;
            }
        }
        return false;
    }

    private void sendOperand(int value, int arrival) {
        int tail = (operandHead + operandCount) % DEPTH_LIMIT;
        operandValue[tail] = value;
        operandArrival[tail] = arrival;
        operandCount++;
    }

    private void stepExecute() {
        int at = position[EXECUTE];
        if (at >= length || !isExecuteReady(at)) {
            return;
        }
        executed++;
        switch (opOf[at]) {
            case STORE:
                executeStore(at);
                break;
            case SKIPZ:
                position[EXECUTE] = at + 1 + receivedOperand();
                break;
            case REPEAT:
                passRepeat(EXECUTE, at);
                break;
            case END:
                passEnd(EXECUTE, at);
                break;
            default:
                executeTarget(at);
                break;
        }
    }

    private boolean isExecuteReady(int at) {
        if (opOf[at] == STORE) {
            return storeCount > 0;
        }
        if (needsOperand(at)) {
            return operandCount > 0 && operandArrival[operandHead] <= cycle;
        }
        return true;
    }

    private boolean needsOperand(int at) {
        if (opOf[at] == LOAD || opOf[at] == SKIPZ) {
            return true;
        }
        return hasTarget(at) && isInSet(runSide, xOf[at]);
    }

    private void executeStore(int at) {
        cells[storeCell[storeHead]] = registers[xOf[at]];
        storeHead = (storeHead + 1) % DEPTH_LIMIT;
        storeCount--;
        position[EXECUTE] = at + 1;
    }

    private void executeTarget(int at) {
        registers[xOf[at]] = needsOperand(at) ? receivedOperand() : computed(at, registers);
        position[EXECUTE] = at + 1;
    }

    private int receivedOperand() {
        int value = operandValue[operandHead];
        operandHead = (operandHead + 1) % DEPTH_LIMIT;
        operandCount--;
        return value;
    }

    private int computed(int at, int[] file) {
        int left = file[yOf[at]];
        if (opOf[at] == ADDI) {
            return left + zOf[at];
        }
        int right = file[zOf[at]];
        switch (opOf[at]) {
            case ADD:
                return left + right;
            case SUB:
                return left - right;
            case MUL:
                return left * right;
            case XOR:
                return left ^ right;
            default:
                return left < right ? 1 : 0;
        }
    }

    private void passRepeat(int half, int at) {
        int top = half * OPEN_LIMIT + openLoops[half];
        loopStart[top] = at + 1;
        passesLeft[top] = xOf[at];
        openLoops[half]++;
        position[half] = at + 1;
    }

    private void passEnd(int half, int at) {
        int top = half * OPEN_LIMIT + openLoops[half] - 1;
        passesLeft[top]--;
        if (passesLeft[top] > 0) {
            position[half] = loopStart[top];
        } else {
            openLoops[half]--;
            position[half] = at + 1;
        }
    }
}
