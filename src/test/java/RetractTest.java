/** Promise 3: retract. */
public final class RetractTest {
    public static void main(String[] args) {
        DaeProcessor p = new DaeProcessor(2, 2);
        Check.due("retract of nothing", p.retract(), DaeProcessor.BAD);
        Check.due("retract of nothing again", p.retract(), DaeProcessor.BAD);
        Check.due("emit after it", p.emit(DaeProcessor.ADDI, 1, 1, 1), 1);
        p.emit(DaeProcessor.ADDI, 2, 2, 2);
        p.emit(DaeProcessor.LOAD, 3, 4, 0);
        Check.due("side with the LOAD", p.addressSide(), 1 << 4);
        Check.due("retract of 3", p.retract(), 2);
        Check.due("side without the LOAD", p.addressSide(), 0);
        Check.due("retract of 2", p.retract(), 1);
        Check.due("run of what is left", p.run(), 1);
        Check.due("register(1): the first is left", p.register(1), 1);
        Check.due("register(2): the last is gone", p.register(2), 0);
        Check.due("emit in its place", p.emit(DaeProcessor.ADDI, 5, 5, 7), 2);
        Check.due("run with the new one", p.run(), 2);
        Check.due("register(1)", p.register(1), 2);
        Check.due("register(5)", p.register(5), 7);
        Check.due("retract to 1", p.retract(), 1);
        Check.due("retract to 0", p.retract(), 0);
        Check.due("retract of the emptied", p.retract(), DaeProcessor.BAD);
        Check.due("run of the emptied", p.run(), 0);
        Check.due("retract leaves registers", p.register(5), 7);
        Check.finish();
    }
}
