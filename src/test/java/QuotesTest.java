import java.io.IOException;
import java.nio.file.DirectoryStream;
import java.nio.file.Files;
import java.nio.file.Path;
import java.util.TreeMap;
import java.util.TreeSet;
import java.util.regex.Matcher;
import java.util.regex.Pattern;

/** Ahead of each test of a boundary case stands of which sentence it is; the sentence stands in the document just there. */
public final class QuotesTest {
    private static final Pattern TEST = Pattern.compile("(?s)(/\\*\\*(?:(?!\\*/).)*\\*/\\s*)?static void (\\w+)\\(\\) \\{");
    private static final Pattern QUOTE = Pattern.compile("(Promise \\d+|Terms [12]|The face): \"([^\"]+)\"");

    public static void main(String[] args) throws IOException {
        TreeMap<String, String> sections = sections(Files.readString(Path.of("../shared/DOC.md")));
        Due.is("sections", sections.size(), 41);
        TreeSet<String> quoted = new TreeSet<>();
        int files = 0;
        try (DirectoryStream<Path> all = Files.newDirectoryStream(Path.of("src/test/java"), "*EdgesTest.java")) {
            for (Path file : all) {
                files++;
                check(file.getFileName() + "", Files.readString(file), sections, quoted);
            }
        }
        Due.holds("there are tests of boundary cases", files > 0);
        for (String section : sections.keySet()) {
            Due.holds(section + " has tests of its boundary cases", quoted.contains(section));
        }
        Due.end();
    }

    static void check(String file, String source, TreeMap<String, String> sections, TreeSet<String> quoted) {
        Matcher test = TEST.matcher(source);
        while (test.find()) {
            String name = file + ", " + test.group(2);
            String comment = test.group(1) == null ? "" : plain(test.group(1).replaceAll("\\n\\s*\\*(?!/)", "\n"));
            Matcher quote = QUOTE.matcher(comment);
            int quotes = 0;
            while (quote.find()) {
                quotes++;
                quoted.add(quote.group(1));
                String section = sections.getOrDefault(quote.group(1), "");
                Due.holds(name + ": " + quote.group(1) + " says " + quote.group(2), section.contains(quote.group(2)));
            }
            Due.holds(name + " says of which sentence it is", quotes > 0);
        }
    }

    static TreeMap<String, String> sections(String doc) {
        TreeMap<String, String> all = new TreeMap<>();
        all.put("The face", between(doc, "An object is used", "## Terms"));
        all.put("Terms 1", between(doc, "======== 1", "======== 2"));
        all.put("Terms 2", between(doc, "======== 2", "Ahead of the calls"));
        for (int p = 1; p <= 38; p++) {
            all.put("Promise " + p, between(doc, "## Promise " + p + ":", p == 38 ? "## Not promised" : "## Promise " + (p + 1) + ":"));
        }
        return all;
    }

    static String between(String doc, String from, String to) {
        int start = doc.indexOf(from);
        int end = doc.indexOf(to, start + 1);
        return start < 0 || end < 0 ? "" : plain(doc.substring(start, end));
    }

    static String plain(String text) {
        return text.replaceAll("\\s+", " ");
    }
}
