import java.lang.reflect.Constructor;
import java.lang.reflect.Field;
import java.lang.reflect.Method;
import java.lang.reflect.Modifier;
import java.nio.file.Files;
import java.nio.file.Path;
import java.util.ArrayList;
import java.util.Arrays;
import java.util.List;
import java.util.regex.Matcher;
import java.util.regex.Pattern;

/** Rules of ../shared/LANGUAGE.md that a glance at the source can see, the face, and how much calls make. */
final class LanguageTest {
    private static final String[] FACE = {"again(int)", "bail(int,int,int)", "corner(int,int,int,int)", "cost(int,int,int)",
        "count(int)", "dead(int,int)", "deed(int,int,int)", "drawn(int,int,int,int)", "drift(int,int,int,int)", "end(int)",
        "fault(int)", "feed(int,int,int,int,int)", "gain(int,int,int,int)", "goes(int,int,int,int)", "image(int)",
        "lake(int,int)", "lies(int,int)", "list(int,int,int,int)", "meet(int,int,boolean)", "owed(int,int,int,int)",
        "pull(int,int,int)", "reach(int,int,int,int)", "sends(int,int)", "sight(int,int,int)", "state(int,int,int,int)",
        "stood(int,int,int)", "stop(int,int)", "term(int,int,int)", "text(int,int)", "thrift(int,int,int)", "trim(int,int)"};

    private LanguageTest() {
    }

    static void run() throws Exception {
        face();
        faceOfThePage();
        source();
        library();
        room();
    }

    private static void face() {
        List<String> methods = new ArrayList<>();
        for (Method method : GraveRegatta.class.getDeclaredMethods()) {
            int bits = method.getModifiers();
            if (!Modifier.isPrivate(bits) && !method.isSynthetic()) {
                StringBuilder shown = new StringBuilder(method.getName()).append('(');
                for (Class<?> type : method.getParameterTypes()) {
                    shown.append(shown.charAt(shown.length() - 1) == '(' ? "" : ",").append(type.getName());
                }
                methods.add(shown.append(')').toString());
                boolean isTruth = method.getName().equals("image") || method.getName().equals("again");
                Bench.due(shown + " type", method.getReturnType() == (isTruth ? boolean.class : int.class), true);
                Bench.due(shown + " public", Modifier.isPublic(bits) && !Modifier.isStatic(bits), true);
            } else {
                boolean isFaceName = Arrays.stream(FACE).anyMatch(one -> one.startsWith(method.getName() + "("));
                Bench.due("private " + method.getName() + " has a public name", isFaceName, false);
            }
        }
        for (Class<?> inside : GraveRegatta.class.getDeclaredClasses()) {
            for (Method method : inside.getDeclaredMethods()) {
                boolean isFaceName = Arrays.stream(FACE).anyMatch(one -> one.startsWith(method.getName() + "("));
                Bench.due(inside + "'s " + method.getName() + " has a public name", isFaceName, false);
            }
        }
        methods.sort(null);
        Bench.due("the face's methods " + methods, methods.equals(Arrays.asList(FACE)), true);
        Bench.due("final class", Modifier.isFinal(GraveRegatta.class.getModifiers()), true);
        for (Constructor<?> one : GraveRegatta.class.getDeclaredConstructors()) {
            Bench.due("constructor", Modifier.isPublic(one.getModifiers()) && one.getParameterCount() == 0, true);
        }
        for (Field field : GraveRegatta.class.getDeclaredFields()) {
            boolean isNone = field.getName().equals("NONE");
            Bench.due("field " + field.getName(), Modifier.isPrivate(field.getModifiers()), !isNone);
        }
        Bench.due("classes", GraveRegatta.class.getDeclaredClasses().length <= 12, true);
        Bench.due("NONE", GraveRegatta.NONE, -1);
    }

    /** FACE is what the document shows as its public face. */
    private static void faceOfThePage() throws Exception {
        Path page = Path.of("../shared/DOC.md");
        if (!Files.exists(page)) {
            return;
        }
        List<String> shown = new ArrayList<>();
        Matcher lines = Pattern.compile("(?m)^ +public (?:int|boolean) (\\w+)\\((.*)\\);").matcher(Files.readString(page));
        while (lines.find()) {
            shown.add(lines.group(1) + "(" + lines.group(2).replaceAll(" \\w+(, |$)", ",").replaceAll(",$", "") + ")");
        }
        shown.sort(null);
        Bench.due("the document's face " + shown, shown.equals(Arrays.asList(FACE)), true);
    }

    private static String source(boolean isWhole) throws Exception {
        String source = Files.readString(Path.of("src/main/java/GraveRegatta.java"));
        return isWhole ? source : source.replaceAll("(?s)/\\*.*?\\*/", "").replaceAll("//[^\n]*", "")
                .replaceAll("\"[^\"\n]*\"", "\"\"");
    }

    /** What the class calls of the library, by the library's class. */
    private static void library() throws Exception {
        Matcher calls = Pattern.compile("\\b(System|Arrays|Math|Integer|Long|String|List|Character|Boolean|Double)\\.(\\w+)")
                .matcher(source(false));
        while (calls.find()) {
            boolean isListed = calls.group().matches("System\\.arraycopy|Arrays\\.(copyOf|copyOfRange|fill)|List\\.of"
                    + "|(Math|Integer|Long)\\.(?!random|sqrt|cbrt|pow|valueOf|parse|decode|get|to\\w*String)\\w+");
            Bench.due("the library's " + calls.group(), isListed, true);
        }
    }

    private static void source() throws Exception {
        String source = source(true);
        String code = source(false);
        for (String word : new String[] {"throw", "throws", "try", "catch", "synchronized", "assert", "package", "Object",
            "hashCode", "protected", "volatile", "native", "transient", "\\w+Exact", "Thread", "Random", "nanoTime",
            "currentTimeMillis"}) {
            Bench.due("the word " + word, Pattern.compile("\\b" + word + "\\b").matcher(code).find(), false);
        }
        Matcher imports = Pattern.compile("\\bimport ([^;]*);").matcher(code);
        while (imports.find()) {
            boolean isListed = imports.group(1).matches("java\\.util\\.(ArrayList|List|Arrays|Iterator)");
            Bench.due("import of " + imports.group(1), isListed, true);
        }
        Bench.due("lambda or method reference", code.contains("->") || code.contains("::"), false);
        for (char sign : source.toCharArray()) {
            if (sign > 126) {
                Bench.due("a sign above 126", sign, ' ');
            }
        }
        Matcher statics = Pattern.compile("static (?!final|int |boolean |void )(\\w+)").matcher(code);
        while (statics.find()) {
            Bench.due("static " + statics.group(1), false, true);
        }
        // a method's body: from a line of four or eight blanks that ends with '{' to its closing line
        Matcher methods = Pattern.compile("\n( {4}| {8})(?! )[^\n;=]*\\(([^\n]*)\\) \\{\n(.*?)\n\\1\\}", Pattern.DOTALL)
                .matcher(code);
        int seen = 0;
        while (methods.find()) {
            seen++;
            Bench.due("lines of " + methods.group().trim().split("\n")[0],
                    methods.group(3).split("\n").length <= 60 && methods.group(2).split(",").length <= 7, true);
        }
        Bench.due("methods seen", seen > 31, true);
    }

    /** All calls of a run live in one room, of 7.3 million elements for 512 calls: a call makes a small part of it. */
    private static void room() {
        var threads = java.lang.management.ManagementFactory.getThreadMXBean();
        if (!(threads instanceof com.sun.management.ThreadMXBean)) {
            return;
        }
        var counter = (com.sun.management.ThreadMXBean) threads;
        long me = Thread.currentThread().getId();
        GraveRegatta regatta = Bench.told("lake:mourner 6 1 0;mourner 5 2 1;leak 0 1;leak 3 2;grave 2 9;stiff 3;",
                "day:stand 0 1;hours 3;", "night:lay 0 0;", "fog:dead 1 2;dead 2 3;", "law:water 3;");
        int calls = everyCall(regatta);
        long before = counter.getThreadAllocatedBytes(me);
        everyCall(regatta);
        long after = counter.getThreadAllocatedBytes(me);
        Bench.due("bytes made by " + calls + " calls: " + (after - before), after - before <= calls * 4L * 7300000 / 512, true);
    }

    /** A call of each kind: how many. */
    private static int everyCall(GraveRegatta x) {
        x.feed(1818323813, 540090424, 989855744, 0, 0);
        x.end(9);
        x.text(0, 0);
        x.fault(0);
        x.lake(0, 3);
        x.deed(0, 0, 1);
        x.stop(0, 0);
        x.state(0, 0, 2, 0);
        x.list(0, 0, 2, 0);
        x.drift(0, 0, 2, 0);
        x.goes(0, 0, 2, 0);
        x.goes(0, 0, 2, 1);
        x.goes(0, 0, 2, 11);
        x.owed(0, 0, 2, 0);
        x.cost(0, 1, 1);
        x.reach(0, 12, -1, -1);
        x.sends(0, 0);
        x.sends(0, 2);
        x.thrift(0, 1, 1);
        x.pull(0, 3, -1);
        x.gain(0, 3, 1, 1);
        x.sight(0, 0, 0);
        x.stood(0, 0, 0);
        x.corner(0, 0, 0, 0);
        x.dead(0, 0);
        x.lies(0, 0);
        x.lies(0, 1);
        x.lies(0, 11);
        x.bail(0, 8, -1);
        x.term(0, 0, 0);
        x.meet(0, 0, true);
        x.drawn(0, 5, 40, 0);
        x.trim(0, 10);
        x.count(0);
        x.image(0);
        x.again(0);
        return 36;
    }
}
