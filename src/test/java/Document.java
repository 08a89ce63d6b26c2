import java.nio.file.Files;
import java.nio.file.Path;
import java.util.ArrayList;
import java.util.LinkedHashMap;
import java.util.List;
import java.util.Map;
import java.util.regex.Matcher;
import java.util.regex.Pattern;

/**
 * The document that the edge tests quote: each case is asked under the words that name it. Behind all of them every
 * quote has to stand in the document, and every clause of its terms and promises has to have been quoted.
 */
final class Document {
    private static final Path PAGE = Path.of("../shared/DOC.md");
    private static final Pattern PART = Pattern.compile("(?m)^(?:(\\d)\\. |## Promise (\\d+): )");
    /** Behind a full stop or a semicolon, but not behind the two stops of "1 .. 4". */
    private static final Pattern CLAUSE_END = Pattern.compile("(?<=[^. ][.;]) ");
    private static final List<String[]> QUOTES = new ArrayList<>();

    private Document() {
    }

    /** The words of a part ("term 3", "promise 14") that name the cases that follow. */
    static void says(String part, String words) {
        QUOTES.add(new String[] {part, words});
        Bench.about = part + ", \"" + words + "\": ";
    }

    /** Asks whether the quotes are the document's, and whether there is one of every clause. */
    static void check() throws Exception {
        Bench.about = "";
        if (!Files.exists(PAGE)) {
            System.out.println("no document at " + PAGE + ": the quotes are not looked up");
            return;
        }
        Map<String, String> parts = parts();
        Bench.due("parts of the document", parts.size(), 6 + 32);
        Map<String, boolean[]> quoted = new LinkedHashMap<>();
        parts.forEach((part, text) -> quoted.put(part, new boolean[text.length()]));
        for (String[] quote : QUOTES) {
            int at = parts.getOrDefault(quote[0], "").indexOf(quote[1]);
            Bench.due("the document says in " + quote[0] + ": " + quote[1], at >= 0, true);
            for (int k = 0; at >= 0 && k < quote[1].length(); k++) {
                quoted.get(quote[0])[at + k] = true;
            }
        }
        parts.forEach((part, text) -> dueClauses(part, text, quoted.get(part)));
    }

    private static void dueClauses(String part, String text, boolean[] isQuoted) {
        int from = 0;
        for (String clause : CLAUSE_END.split(text)) {
            boolean isAsked = false;
            for (int k = from; k < from + clause.length(); k++) {
                isAsked |= isQuoted[k];
            }
            Bench.due("a test under the words of " + part + ": " + clause, isAsked, true);
            from += clause.length() + 1;
        }
    }

    /** The terms and promises by their names, each with its blanks made one. */
    private static Map<String, String> parts() throws Exception {
        String page = Files.readString(PAGE);
        page = page.substring(page.indexOf("## Terms"), page.indexOf("## Not promised")).replaceAll("```(text)?", "");
        Map<String, String> parts = new LinkedHashMap<>();
        Matcher matcher = PART.matcher(page);
        String name = "";
        int from = 0;
        while (matcher.find()) {
            parts.put(name, plain(page.substring(from, matcher.start())));
            name = matcher.group(1) != null ? "term " + matcher.group(1) : "promise " + matcher.group(2);
            from = matcher.end();
        }
        parts.put(name, plain(page.substring(from)));
        parts.remove("");
        return parts;
    }

    private static String plain(String text) {
        return text.replaceAll("\\s+", " ").trim();
    }
}
