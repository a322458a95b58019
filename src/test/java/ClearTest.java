/** Promise 10: clear. */
public final class ClearTest {
    public static void main(String[] args) {
        DaeProcessor p = new DaeProcessor(4, 6);
        p.clear();
        Check.dueEverywhere("clear of a new object", p, 0);
        for (int r = 0; r < 8; r++) {
            p.setRegister(r, 1 + r);
        }
        for (int cell = 0; cell < 16; cell++) {
            p.setMemory(cell, 1 + cell);
        }
        for (int i = 0; i < 24; i++) {
            p.emit(DaeProcessor.STORE, 1, 2, i);
        }
        Check.due("run()", p.run(), 24);
        p.clear();
        Check.dueEverywhere("after clear", p, 0);
        Check.due("addressSide() after clear", p.addressSide(), 0);
        Check.due("run() after clear", p.run(), 0);
        Check.due("retract() after clear", p.retract(), DaeProcessor.BAD);
        Check.due("emit() after clear", p.emit(DaeProcessor.REPEAT, 1, 0, 0), 1);
        Check.due("run() of a malformed", p.run(), DaeProcessor.MALFORMED);
        p.clear();
        Check.due("run() after a second clear", p.run(), 0);
        p.emit(DaeProcessor.ADDI, 3, 3, 4);
        Check.due("run() of a new program", p.run(), 1);
        Check.due("register(3)", p.register(3), 4);
        Check.finish();
    }
}
