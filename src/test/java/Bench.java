import java.util.Arrays;

/** What the tests share: answers are counted, those that are not due are printed; texts are fed as bytes. */
final class Bench {
    static int passed;
    static int failed;
    /** What the tests that run are about: shown with what fails. */
    static String about = "";

    private Bench() {
    }

    static void due(String what, long got, long want) {
        if (got == want) {
            passed++;
            return;
        }
        failed++;
        if (failed <= 60) {
            System.out.println(about + what + ": answered " + got + ", due is " + want);
        }
    }

    static void due(String what, boolean got, boolean want) {
        due(what, got ? 1 : 0, want ? 1 : 0);
    }

    /** Puts a text's bytes (its signs 0 .. 255) on the tape, which is empty. */
    static void tape(GraveRegatta regatta, String text) {
        char[] bytes = Arrays.copyOf(text.toCharArray(), (text.length() + 19) / 20 * 20);
        for (int k = 0; k < bytes.length; k += 20) {
            regatta.feed(number(bytes, k), number(bytes, k + 4), number(bytes, k + 8), number(bytes, k + 12),
                    number(bytes, k + 16));
        }
        regatta.end(text.length());
    }

    private static int number(char[] bytes, int at) {
        return bytes[at] << 24 | bytes[at + 1] << 16 | bytes[at + 2] << 8 | bytes[at + 3];
    }

    static int tell(GraveRegatta regatta, int sort, int at, String text) {
        tape(regatta, text);
        return regatta.text(sort, at);
    }

    /** A new object to which texts are told, each as a further one: "lake:..", "day:..", "night:..", "fog:..", "law:..". */
    static GraveRegatta told(String... texts) {
        GraveRegatta regatta = new GraveRegatta();
        for (String text : texts) {
            int colon = text.indexOf(':');
            int sort = Arrays.asList("lake", "day", "night", "fog", "law").indexOf(text.substring(0, colon));
            int want = regatta.count(sort);
            due("telling " + text, tell(regatta, sort, GraveRegatta.NONE, text.substring(colon + 1)), want);
        }
        return regatta;
    }

    /** Tells a text to a new object: its FAULT and place have to be these. */
    static void dueFault(int sort, String text, int fault, int place) {
        GraveRegatta regatta = new GraveRegatta();
        String shown = "sort " + sort + " <" + text.replace('\n', '|') + ">";
        due(shown + " text", tell(regatta, sort, GraveRegatta.NONE, text), fault == 0 ? 0 : -1);
        due(shown + " fault", regatta.fault(0), fault);
        due(shown + " place", regatta.fault(1), place);
        due(shown + " count", regatta.count(sort), fault == 0 ? 1 : 0);
    }
}
