import java.nio.file.Files;
import java.nio.file.Path;
import java.util.List;

/** The example that README.md shows: run with the tests, and compared with the page, so that what it says holds. */
final class Example {
    private Example() {
    }

    static void run() throws Exception {
        calls();
        duePage();
    }

    private static void calls() {
        GraveRegatta yard = new GraveRegatta();
        int lake = tell(yard, 0, "lake 9 7; raft 3 2; at 2 3; rock 8 3; grave 3 2; wreath 4; mourner 5 3 0; leak 5 1;");
        int day = tell(yard, 1, "stand 0 2; hours 3; leave 0; wind 0 2; hours 1; moor;");

        due(yard.lake(lake, 12), 1);              // one GRAVE is told
        due(yard.list(lake, day, 1, 0), 6);       // LIST of x with the mourner on the last column: above STIFF
        due(yard.drift(lake, day, 1, 0), 1);      // so the raft drifts to the right
        due(yard.state(lake, day, 2, 0), 5);      // X behind three hours
        due(yard.state(lake, day, 5, 1), 2);      // Y behind an hour of wind
        due(yard.stop(lake, day), 5);             // it lies at no SIDE: the last DEED, moor, can't be
        due(yard.state(lake, day, 6, 0), -2);     // so there is no STATE behind it
        due(yard.cost(lake, -1, 0), 3);           // the least TEARS by which it drifts to the left

        due(tell(yard, 0, "raft 5 2;"), -1);      // a FAULT: a raft is LONG 4 at most
        due(yard.fault(0), 2);                    // a NUMBER that can't be,
        due(yard.fault(1), 5);                    // at the sixth byte
    }

    /** Tells a text of a sort as a further one: its number, or what is below 0. */
    private static int tell(GraveRegatta yard, int sort, String text) {
        int[] tape = new int[(text.length() + 19) / 20 * 5];
        for (int k = 0; k < text.length(); k++) {
            tape[k / 4] |= text.charAt(k) << (24 - k % 4 * 8);
        }
        for (int k = 0; k < tape.length; k += 5) {
            yard.feed(tape[k], tape[k + 1], tape[k + 2], tape[k + 3], tape[k + 4]);
        }
        yard.end(text.length());
        return yard.text(sort, GraveRegatta.NONE);
    }

    private static void due(int answer, int want) {
        Bench.due("README's example", answer, want);
    }

    /** Every call above stands on the page, with its answer and what is said of it. */
    private static void duePage() throws Exception {
        String page = plain(Files.readString(Path.of("README.md")));
        List<String> lines = Files.readAllLines(Path.of("src/test/java/Example.java"));
        boolean isShown = false;
        for (String line : lines) {
            isShown &= !line.equals("    }");
            if (isShown && !line.isBlank()) {
                String shown = plain(line.replaceAll("due\\((.*), (-?\\d+)\\); +// ", "$1; // $2: "));
                Bench.due("README.md shows <" + shown + ">", page.contains(shown), true);
            }
            isShown |= line.startsWith("    private static void calls()") || line.startsWith("    private static int tell(");
        }
    }

    private static String plain(String text) {
        return text.replaceAll("\\s+", " ").trim();
    }
}
