import java.util.ArrayList;
import java.util.HashMap;
import java.util.HashSet;
import java.util.List;
import java.util.Map;
import java.util.Random;
import java.util.Set;
import java.util.regex.Matcher;
import java.util.regex.Pattern;

/** Texts by chance, right and wrong ones: their FAULTS are those that a second reader finds. */
final class TextFuzzTest {
    private static final Pattern TOKEN = Pattern.compile("[a-z]+|[0-9]+|;|[^ \n]", Pattern.DOTALL);
    /** Each line's word, the bounds of its numbers ("least-greatest"), and how many such lines there may be (*). */
    private static final String[] GRAMMARS = {
        "lake 2-12 2-12,raft 1-4 1-4,at 0-11 0-11,stiff 0-99,drag 1-99,float 1-99,rock 0-11 0-11 *20,grave 0-15 1-30 *12,"
            + "wreath 1-9 *6,mourner 1-6 0-9 0-1 *5,leak 0-15 1-9 *4,brothers 0-3 0-3",
        "stand 0-4 0-15 *40,leave 0-4 *40,wind 0-3 1-9 *40,calm *40,frost *40,thaw *40,moor *40,cast *40,bail 0-15 *40,"
            + "hours 1-9 *40",
        "lay 0-11 0-11 *8",
        "dead 0-7 *8",
        "grave 0-9 *8,list 0-999 0-99 *8,touch 0-3 0-99 *8,water 0-9 *8,odd 0-99 *8,most 0-999 *8"};

    private TextFuzzTest() {
    }

    static void run() {
        int[] seen = new int[7];
        for (int seed = 1; seed <= 6000; seed++) {
            Random random = new Random(seed);
            int sort = random.nextInt(5);
            String text = spoil(random, random.nextInt(20) == 0 ? random.nextInt(5) : sort, text(random, sort));
            if (text.length() <= 600) {
                int[] want = faultOf(sort, text);
                seen[want[0]]++;
                Bench.dueFault(sort, text, want[0], want[1]);
            }
        }
        for (int fault = 0; fault < seen.length; fault++) {
            Bench.due("texts by chance with fault " + fault, seen[fault] > 20, true);
        }
    }

    /** FAULT and place. */
    static int[] faultOf(int sort, String text) {
        List<String> tokens = new ArrayList<>();
        List<Integer> places = new ArrayList<>();
        Matcher matcher = TOKEN.matcher(text);
        while (matcher.find()) {
            tokens.add(matcher.group());
            places.add(matcher.start());
        }
        tokens.add("");
        places.add(text.length());
        int[] first = {0, Integer.MAX_VALUE};
        Map<String, Integer> counts = new HashMap<>();
        Map<String, List<int[]>> lines = new HashMap<>();
        int at = 0;
        while (at < tokens.size() - 1) {
            String[] rule = ruleOf(sort, tokens.get(at));
            if (rule == null) {
                return new int[] {1, places.get(at)};
            }
            int start = at++;
            List<Integer> numbers = new ArrayList<>();
            Set<Integer> told = new HashSet<>();
            int k = 1;
            while (isNumber(tokens.get(at)) && (k < rule.length && rule[k].contains("-") || rule[0].equals("dead"))) {
                int number = Integer.parseInt(tokens.get(at));
                String[] bounds = rule[rule[0].equals("dead") ? 1 : k].split("-");
                boolean isBad = number < Integer.parseInt(bounds[0]) || number > Integer.parseInt(bounds[1]);
                isBad |= rule[0].equals("dead") && !told.add(number);
                isBad |= rule[0].equals("brothers") && k == 2 && number == numbers.get(0);
                if (isBad && places.get(at) < first[1]) {
                    first = new int[] {2, places.get(at)};
                }
                numbers.add(number);
                at++;
                k++;
            }
            boolean isShort = rule[0].equals("dead") ? numbers.isEmpty() : k < rule.length && rule[k].contains("-");
            if (isShort || !tokens.get(at).equals(";")) {
                return new int[] {1, places.get(at)};
            }
            at++;
            String most = rule[rule.length - 1];
            if (most.startsWith("*")) {
                String counted = sort == 0 ? rule[0] : "all";
                if (counts.merge(counted, 1, Integer::sum) > Integer.parseInt(most.substring(1))
                        && places.get(start) < first[1]) {
                    first = new int[] {3, places.get(start)};
                }
            }
            lines.computeIfAbsent(rule[0], word -> new ArrayList<>())
                    .add(numbers.stream().mapToInt(Integer::intValue).toArray());
        }
        if (first[0] == 0 && sort == 0) {
            int whole = wholeFault(lines);
            return new int[] {whole, whole == 0 ? -1 : text.length()};
        }
        return first[0] == 0 ? new int[] {0, -1} : first;
    }

    private static boolean isNumber(String token) {
        return token.matches("[0-9]{1,3}");
    }

    private static String[] ruleOf(int sort, String word) {
        for (String line : GRAMMARS[sort].split(",")) {
            String[] rule = line.split(" ");
            if (rule[0].equals(word)) {
                return rule;
            }
        }
        return null;
    }

    private static int[] last(Map<String, List<int[]>> lines, String word, int... otherwise) {
        List<int[]> all = lines.get(word);
        return all == null ? otherwise : all.get(all.size() - 1);
    }

    private static int wholeFault(Map<String, List<int[]>> lines) {
        int[] lake = last(lines, "lake", 8, 8);
        int[] raft = last(lines, "raft", 3, 2);
        int[] at = last(lines, "at", 0, 0);
        if (at[0] + raft[0] > lake[0] || at[1] + raft[1] > lake[1]) {
            return 4;
        }
        for (String word : new String[] {"grave", "leak"}) {
            for (int[] one : lines.getOrDefault(word, List.of())) {
                if (one[0] >= raft[0] * raft[1]) {
                    return 5;
                }
            }
        }
        for (int[] rock : lines.getOrDefault("rock", List.of())) {
            boolean isUnder = rock[0] >= at[0] && rock[0] < at[0] + raft[0] && rock[1] >= at[1] && rock[1] < at[1] + raft[1];
            if (isUnder || rock[0] >= lake[0] || rock[1] >= lake[1]) {
                return 6;
            }
        }
        return 0;
    }

    /** A text of a sort, mostly a right one. */
    private static String text(Random random, int sort) {
        StringBuilder text = new StringBuilder();
        String[] rules = GRAMMARS[sort].split(",");
        boolean isCrowd = random.nextInt(4) == 0;
        String crowd = rules[random.nextInt(rules.length)];
        for (int k = random.nextInt(isCrowd ? 50 : 10); k > 0; k--) {
            String[] rule = (isCrowd ? crowd : rules[random.nextInt(rules.length)]).split(" ");
            text.append(rule[0]);
            List<Integer> told = new ArrayList<>();
            for (int n = 1; n < rule.length && rule[n].contains("-"); n++) {
                String[] bounds = rule[n].split("-");
                int least = Integer.parseInt(bounds[0]);
                int number = least + random.nextInt(Integer.parseInt(bounds[1]) - least + 1);
                if (sort == 0 && random.nextInt(3) != 0) {
                    number = least + (rule[0].equals("rock") ? 4 + random.nextInt(4) : random.nextInt(2));
                    number = rule[0].equals("lake") ? 8 + random.nextInt(5) : number;
                }
                number += random.nextInt(60) == 0 ? random.nextInt(1000) : 0;
                told.add(number);
                text.append(blanks(random, n == 1 && random.nextInt(20) == 0)).append(number);
            }
            while (rule[0].equals("dead") && random.nextInt(3) != 0) {
                int number = random.nextInt(8);
                if (random.nextInt(10) == 0 || !told.contains(number)) {
                    told.add(number);
                    text.append(blanks(random, false)).append(number);
                }
            }
            text.append(random.nextInt(10) == 0 ? " ;" : ";");
            text.append(random.nextInt(10) == 0 ? "\n" : "");
        }
        return text.toString();
    }

    private static String blanks(Random random, boolean without) {
        if (without) {
            return "";
        }
        return random.nextInt(10) == 0 ? " \n " : " ";
    }

    private static String spoil(Random random, int sort, String text) {
        if (text.isEmpty() || random.nextInt(3) != 0) {
            return text;
        }
        int at = random.nextInt(text.length());
        String[] pieces = {";", " ", "\n", "0", "1", "12", "1234", "a", "x", "\t", "\0", (char) 233 + "", "A", "-", "lake",
            "dead 1;", "grave 1", GRAMMARS[sort].split(" ")[0], "007 "};
        String piece = pieces[random.nextInt(pieces.length)];
        switch (random.nextInt(4)) {
            case 0:
                return text.substring(0, at);
            case 1:
                return text.substring(0, at) + piece + text.substring(at);
            case 2:
                return text.substring(0, at) + text.substring(at + 1);
            default:
                return text.substring(0, at) + piece + text.substring(at + 1);
        }
    }
}
