/** Counts and prints the answers that are not as due. */
final class Check {
    private static int wrong = 0;
    private static int made = 0;
    private static String sentence = null;
    private static int madeBefore = 0;

    private Check() {
    }

    /** The answers from here on are about these words of the document. */
    static void sentence(String words) {
        closeSentence();
        sentence = words;
        madeBefore = made;
    }

    private static void closeSentence() {
        if (sentence == null) {
            return;
        }
        System.out.println("   \"" + sentence + "\": " + (made - madeBefore) + " answers");
        if (made == madeBefore) {
            wrong++;
            System.out.println("no answer is about it");
        }
    }

    static void due(String what, long got, long want) {
        made++;
        if (got != want) {
            wrong++;
            String about = sentence == null ? "" : " (\"" + sentence + "\")";
            System.out.println(what + " answered " + got + ", due is " + want + about);
        }
    }

    static void due(String what, boolean got, boolean want) {
        due(what, got ? 1L : 0L, want ? 1L : 0L);
    }

    /** Every register and cell of the object holds this value. */
    static void dueEverywhere(String what, DaeProcessor p, int want) {
        for (int r = 0; r < 8; r++) {
            due(what + ": register(" + r + ")", p.register(r), want);
        }
        for (int cell = 0; cell < 16; cell++) {
            due(what + ": memory(" + cell + ")", p.memory(cell), want);
        }
    }

    static void finish() {
        closeSentence();
        System.out.println(made + " answers, " + wrong + " not as due");
        if (wrong != 0 || made == 0) {
            System.exit(1);
        }
    }
}
