/** Counts answers that are not due, and ends a test with exit code 1 if there was one. */
final class Check {
    private static final int MOST_REPORTS = 40;

    private static int wrong = 0;
    private static int asked = 0;
    private static String sentence = "";

    private Check() {
    }

    /** The words of the document that the checks from here on are about. */
    static void sentence(String words) {
        sentence = words;
    }

    static void same(String label, long got, long want) {
        asked++;
        if (got != want) {
            report(label + ": " + got + ", due is " + want);
        }
    }

    static void same(String label, String got, String want) {
        asked++;
        if (!got.equals(want)) {
            report(label + ":\n  " + got + "\ndue is\n  " + want);
        }
    }

    static void isTrue(String label, boolean holds) {
        asked++;
        if (!holds) {
            report(label + " does not hold");
        }
    }

    /** The call throws just this exception, and nothing of the shelf changes by it. */
    static void refused(String label, SoundShelf shelf, Class<? extends RuntimeException> due, Runnable call) {
        String before = state(shelf);
        asked++;
        try {
            call.run();
            report(label + " threw nothing, due is " + due.getSimpleName());
        } catch (RuntimeException e) {
            if (e.getClass() != due) {
                report(label + " threw " + e.getClass().getName() + ", due is " + due.getSimpleName());
            }
        }
        same(label + " leaves all as it was", state(shelf), before);
    }

    static void end() {
        if (wrong > 0) {
            System.out.println(wrong + " of " + asked + " answers are not due");
            System.exit(1);
        }
    }

    static String state(SoundShelf shelf) {
        return soundOf(shelf) + " | " + hexOf(shelf) + " | " + formOf(shelf);
    }

    static String soundOf(SoundShelf shelf) {
        StringBuilder text = new StringBuilder().append(shelf.rate()).append(':');
        for (int i = 0; i < shelf.samples(); i++) {
            text.append(' ').append(shelf.at(i));
        }
        return text.toString();
    }

    static String hexOf(SoundShelf shelf) {
        StringBuilder text = new StringBuilder();
        for (int k = 0; k < shelf.size(); k++) {
            text.append(String.format("%02x", shelf.byteAt(k)));
        }
        return text.toString();
    }

    static String formOf(SoundShelf shelf) {
        try {
            return String.valueOf(shelf.form());
        } catch (IllegalStateException e) {
            return "none";
        }
    }

    private static void report(String text) {
        wrong++;
        if (wrong <= MOST_REPORTS) {
            System.out.println(sentence.isEmpty() ? text : "\"" + sentence + "\"\n  " + text);
        }
    }
}
