import java.util.Arrays;
import java.util.List;

/**
 * An object that is told texts again and again, so that what an earlier text left behind would show; another one, told
 * the same, takes its place before it has had the 512 calls for which the document promises anything.
 */
final class Retold {
    private static final int MOST_CALLS = 512;
    private static final List<String> SORTS = Arrays.asList("lake", "day", "night", "fog", "law");

    private GraveRegatta regatta = new GraveRegatta();
    private int calls;
    private String[] texts = {};

    /** Tells texts, each in the place of an earlier one, or as a further one: "lake:..", "day:..", and so on. */
    void tell(String... newTexts) {
        texts = newTexts;
        int cost = 0;
        for (String text : texts) {
            cost += text.length() / 20 + 4;
        }
        if (calls + cost > MOST_CALLS) {
            regatta = new GraveRegatta();
            calls = 0;
        }
        calls += cost;
        int[] next = new int[SORTS.size()];
        for (String text : texts) {
            int colon = text.indexOf(':');
            int sort = SORTS.indexOf(text.substring(0, colon));
            int at = next[sort]++;
            Bench.due("telling " + text, Bench.tell(regatta, sort, regatta.count(sort) > at ? at : GraveRegatta.NONE,
                    text.substring(colon + 1)), at);
        }
    }

    /** The object, for one call. */
    GraveRegatta now() {
        if (calls == MOST_CALLS) {
            tell(texts);
        }
        calls++;
        return regatta;
    }
}
