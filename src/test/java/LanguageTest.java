import java.io.IOException;
import java.nio.file.Files;
import java.nio.file.Path;
import java.util.ArrayList;
import java.util.List;
import java.util.Set;
import java.util.TreeMap;
import java.util.TreeSet;
import java.util.regex.Matcher;
import java.util.regex.Pattern;

/** What of LANGUAGE.md can be seen in the source; stricter where the class does without what a rule would leave. */
public final class LanguageTest {
    private static final int LINES = 60, DEEP = 8, CLASSES = 12, PARAMETERS = 7;
    /** Rules 1, 2, 5, 6, 13: none of these stands in the class. */
    private static final Set<String> WITHOUT = Set.of("package", "import", "try", "catch", "finally", "throw", "throws", "assert",
        "synchronized", "volatile", "transient", "native", "instanceof", "enum", "record", "interface", "float", "double",
        "protected", "var", "System", "Object", "Thread", "Exception");
    private static final Set<String> LIBRARY = Set.of("Integer.bitCount", "Math.floorMod", "Math.max", "word.length", "word.charAt");
    private static final Set<String> OF_RECURSION = Set.of("lessonsTo lessonsFrom", "readsE readsAnd readsNot readsSum readsTerm readsOne");
    private static final Pattern WORD = Pattern.compile("[A-Za-z_]\\w*");
    private static final Pattern METHOD = Pattern.compile(
        "^( +)(?:public |private )?(?:static )?(?:final )?(\\w+(?:\\[\\])? )?(\\w+)\\(([^)]*)\\) \\{$");

    private final TreeMap<String, TreeSet<String>> calls = new TreeMap<>();

    public static void main(String[] args) throws IOException {
        String source = Files.readString(Path.of("src/main/java/NameThrownBack.java"));
        Due.test("LANGUAGE.md");
        for (int i = 0; i < source.length(); i++) {
            Due.holds("sign " + i + " is plain", source.charAt(i) == '\n' || (source.charAt(i) >= ' ' && source.charAt(i) < 127));
        }
        String code = code(source);
        words(code);
        library(code);
        LanguageTest graph = new LanguageTest();
        graph.methods(code);
        graph.deep();
        Due.end();
    }

    /** The source without comments, and with every text and sign written as an empty text. */
    static String code(String source) {
        return source.replaceAll("'(?:[^'\\\\]|\\\\.)'", "0").replaceAll("\"[^\"\\n]*\"", "\"\"")
            .replaceAll("(?s)/\\*.*?\\*/", "").replaceAll("//[^\\n]*", "");
    }

    static void words(String code) {
        TreeSet<String> there = new TreeSet<>();
        Matcher word = WORD.matcher(code);
        while (word.find()) {
            there.add(word.group());
        }
        for (String without : WITHOUT) {
            Due.holds("rules 1 to 6, 13: does without " + without, !there.contains(without));
        }
        Due.holds("rule 2: no lambda, no method reference", !code.contains("->") && !code.contains("::"));
        Due.holds("rule 5: no static block", !Pattern.compile("static\\s*\\{").matcher(code).find());
        Due.holds("rule 10: texts are not joined by +", !Pattern.compile("\"\\s*\\+|\\+\\s*\"").matcher(code).find());
        Due.holds("rule 3: no rows of three dimensions", !code.contains("[][][]"));
        int classes = code.split("\\bclass ").length - 1;
        Due.holds("rule 11: some twelve classes at most, there are " + classes, classes > 1 && classes <= CLASSES);
    }

    /** Rule 4: what is called of something with a name is the class's own, or stands in the list. */
    static void library(String code) {
        Set<String> own = new TreeSet<>();
        Matcher method = Pattern.compile("(?m)" + METHOD.pattern()).matcher(code);
        while (method.find()) {
            own.add(method.group(3));
        }
        Matcher call = Pattern.compile("(\\w+)\\.(\\w+)\\(").matcher(code);
        int many = 0;
        while (call.find()) {
            many++;
            String name = call.group(1) + "." + call.group(2);
            Due.holds("rule 4: " + name, LIBRARY.contains(name) || own.contains(call.group(2)));
        }
        Due.holds("calls were found", many > 50);
        Due.holds("rule 4: nothing is called of what a call answers", !Pattern.compile("\\)\\.\\w").matcher(code).find());
    }

    /** Rule 11: parameters and lines of each method; which methods it calls, those of one name taken as one. */
    void methods(String code) {
        String name = null;
        String indent = "";
        int lines = 0;
        for (String line : code.split("\n")) {
            Matcher method = METHOD.matcher(line);
            if (name == null && method.matches() && !Set.of("if", "for", "while", "switch").contains(method.group(3))) {
                name = method.group(2) == null ? "new " + method.group(3) : method.group(3);
                indent = method.group(1);
                lines = 0;
                calls.putIfAbsent(name, new TreeSet<>());
                int parameters = method.group(4).isEmpty() ? 0 : method.group(4).split(",").length;
                Due.holds("rule 11: " + name + " takes seven at most", parameters <= PARAMETERS);
            } else if (name != null && line.equals(indent + "}")) {
                Due.holds("rule 11: " + name + " is short, " + lines, lines <= LINES);
                name = null;
            } else if (name != null) {
                lines++;
                Matcher call = Pattern.compile("((?:new )?\\w+)\\(").matcher(line);
                while (call.find()) {
                    calls.get(name).add(call.group(1));
                }
            }
        }
        Due.holds("all methods end", name == null && calls.size() > 80);
    }

    /** Rules 8, 11: calls that are no recursion go eight deep at most; recursion is where it is known, and nowhere else. */
    void deep() {
        TreeMap<String, String> group = new TreeMap<>();
        for (String ring : OF_RECURSION) {
            for (String name : ring.split(" ")) {
                Due.holds(name + " is there", calls.containsKey(name));
                group.put(name, ring);
            }
        }
        TreeMap<String, TreeSet<String>> next = new TreeMap<>();
        for (String from : calls.keySet()) {
            TreeSet<String> to = next.computeIfAbsent(group.getOrDefault(from, from), k -> new TreeSet<>());
            for (String called : calls.get(from)) {
                String one = group.getOrDefault(called, called);
                if (calls.containsKey(called) && !(group.containsKey(from) && one.equals(group.get(from)))) {
                    to.add(one);
                }
            }
        }
        List<String> longest = new ArrayList<>();
        for (String from : next.keySet()) {
            List<String> path = path(from, next, new ArrayList<>());
            longest = path.size() > longest.size() ? path : longest;
        }
        Due.holds("rule 11: eight deep at most: " + longest, longest.size() <= DEEP && longest.size() > 3);
    }

    private static List<String> path(String from, TreeMap<String, TreeSet<String>> next, List<String> open) {
        if (open.contains(from)) {
            Due.holds("rule 8: no recursion of " + open + " and " + from, false);
            return new ArrayList<>();
        }
        open.add(from);
        List<String> longest = new ArrayList<>();
        for (String to : next.get(from)) {
            List<String> path = path(to, next, open);
            longest = path.size() > longest.size() ? path : longest;
        }
        open.remove(open.size() - 1);
        List<String> all = new ArrayList<>(List.of(from));
        all.addAll(longest);
        return all;
    }
}
