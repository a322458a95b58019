/** Counts and prints the answers that are not as due. */
final class Check {
    private static int wrong = 0;
    private static int made = 0;

    private Check() {
    }

    static void due(String what, long got, long want) {
        made++;
        if (got != want) {
            wrong++;
            System.out.println(what + " answered " + got + ", due is " + want);
        }
    }

    static void due(String what, boolean got, boolean want) {
        due(what, got ? 1L : 0L, want ? 1L : 0L);
    }

    /** Every register and cell of the object holds this value. */
    static void dueEverywhere(String what, DaeProcessor p, int want) {
        for (int r = 0; r < 8; r++) {
            due(what + ": register(" + r + ")", p.register(r), want);
        }
        for (int cell = 0; cell < 16; cell++) {
            due(what + ": memory(" + cell + ")", p.memory(cell), want);
        }
    }

    static void finish() {
        System.out.println(made + " answers, " + wrong + " not as due");
        if (wrong != 0 || made == 0) {
            System.exit(1);
        }
    }
}
