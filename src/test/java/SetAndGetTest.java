/** Promises 4, 5, 7 and 8: setRegister, setMemory, register and memory. */
public final class SetAndGetTest {
    private static final int[] OUTSIDE = {Integer.MIN_VALUE, -17, -16, -8, -1, 16, 17, 23, 32, Integer.MAX_VALUE};

    public static void main(String[] args) {
        registers();
        cells();
        wrongPlaces();
        runSeesThem();
        Check.finish();
    }

    private static void registers() {
        DaeProcessor p = new DaeProcessor(1, 1);
        for (int r = 0; r < 8; r++) {
            Check.due("setRegister(" + r + ")", p.setRegister(r, -100 - r), true);
        }
        for (int r = 0; r < 8; r++) {
            Check.due("register(" + r + ")", p.register(r), -100 - r);
        }
        for (int cell = 0; cell < 16; cell++) {
            Check.due("untouched memory(" + cell + ")", p.memory(cell), 0);
        }
        p.setRegister(7, Integer.MAX_VALUE);
        Check.due("register(7) set again", p.register(7), Integer.MAX_VALUE);
        p.setRegister(7, Integer.MIN_VALUE);
        Check.due("register(7) set once more", p.register(7), Integer.MIN_VALUE);
    }

    private static void cells() {
        DaeProcessor p = new DaeProcessor(1, 1);
        for (int cell = 0; cell < 16; cell++) {
            Check.due("setMemory(" + cell + ")", p.setMemory(cell, 1000 + cell), true);
        }
        for (int cell = 0; cell < 16; cell++) {
            Check.due("memory(" + cell + ")", p.memory(cell), 1000 + cell);
        }
        for (int r = 0; r < 8; r++) {
            Check.due("untouched register(" + r + ")", p.register(r), 0);
        }
        p.setMemory(15, Integer.MIN_VALUE);
        Check.due("memory(15) set again", p.memory(15), Integer.MIN_VALUE);
    }

    private static void wrongPlaces() {
        DaeProcessor p = new DaeProcessor(1, 1);
        for (int r = 0; r < 8; r++) {
            p.setRegister(r, 3);
        }
        for (int cell = 0; cell < 16; cell++) {
            p.setMemory(cell, 3);
        }
        for (int place : OUTSIDE) {
            Check.due("setMemory(" + place + ")", p.setMemory(place, 4), false);
            Check.due("memory(" + place + ")", p.memory(place), 0);
            Check.due("setRegister(" + place + ")", p.setRegister(place, 4), false);
            Check.due("register(" + place + ")", p.register(place), 0);
        }
        for (int r = 8; r < 16; r++) {
            Check.due("setRegister(" + r + ")", p.setRegister(r, 4), false);
            Check.due("register(" + r + ")", p.register(r), 0);
        }
        Check.dueEverywhere("after refused sets", p, 3);
    }

    private static void runSeesThem() {
        DaeProcessor p = new DaeProcessor(4, 6);
        p.emit(DaeProcessor.LOAD, 1, 0, 0);
        p.setRegister(0, 12);
        p.setMemory(12, 77);
        p.run();
        Check.due("loaded by the set register", p.register(1), 77);
        p.setMemory(12, 78);
        p.run();
        Check.due("loaded after a new set", p.register(1), 78);
        Check.due("the address register stays", p.register(0), 12);
    }
}
