import java.io.IOException;
import java.nio.file.Files;
import java.nio.file.Path;
import java.util.ArrayList;
import java.util.HashSet;
import java.util.List;
import java.util.Set;
import java.util.regex.Matcher;
import java.util.regex.Pattern;

/** What can be seen of ../shared/LANGUAGE.md in the lines of src/main/java/DoubledBridge.java. */
public final class RulesTests {
    private static final Path SOURCE = Path.of("src/main/java/DoubledBridge.java");
    private static int wrong = 0;

    private static void fault(int rule, String what) {
        wrong++;
        System.out.println("rule " + rule + ": " + what);
    }

    private static List<String> found(String regex, String text) {
        List<String> all = new ArrayList<>();
        Matcher m = Pattern.compile(regex).matcher(text);
        while (m.find()) {
            all.add(m.groupCount() > 0 ? m.group(1) : m.group());
        }
        return all;
    }

    public static void main(String[] args) throws IOException {
        String whole = Files.readString(SOURCE);
        String code = whole.replaceAll("(?s)/\\*.*?\\*/", " ").replaceAll("//[^\n]*", " ");
        String bare = code.replaceAll("\"[^\"\n]*\"", "TEXT").replaceAll("'(\\\\.|[^'])'", "SIGN");
        if (whole.chars().anyMatch(c -> c > 126 || c < 32 && c != '\n')) {
            fault(4, "a sign outside 1 to 127");
        }
        words(bare);
        face(bare);
        library(bare);
        sizes(bare);
        if (!found("TEXT\\s*\\+|\\+\\s*TEXT|\\+=\\s*TEXT", bare).isEmpty()) {
            fault(10, "texts joined by +");
        }
        System.out.println(wrong == 0 ? "the rules are kept" : wrong + " rules are broken");
        if (wrong != 0) {
            System.exit(1);
        }
    }

    private static void words(String bare) {
        for (String word : found("\\b(throw|throws|try|catch|synchronized|assert|finally|native|transient|volatile)\\b", bare)) {
            fault(6, word);
        }
        for (String word : found("\\b(package|import|protected|yield|var|record|sealed)\\b|->|::|@", bare)) {
            fault(2, "" + word);
        }
        for (String method : found("\\b(?:int|boolean|String) (equals|hashCode|toString)\\(", bare)) {
            fault(6, "a " + method + " of its own");
        }
        for (String field : found("(?m)^ +(?:private )?static (?!final |abstract )[A-Za-z\\[\\]]+ \\w+ *[=;]", bare)) {
            fault(5, field);
        }
    }

    private static void face(String bare) throws IOException {
        String doc = Files.readString(Path.of("../shared/DOC.md"));
        String face = doc.substring(doc.indexOf("```java") + 7, doc.indexOf("```", doc.indexOf("```java") + 7));
        Set<String> asked = new HashSet<>(found("(?m)^ +public (?:int|long) (\\w+)\\(", face));
        Set<String> own = new HashSet<>(found("(?m)^    public (?:int|long) (\\w+)\\(", bare));
        if (!asked.equals(own) || asked.size() != 49) {
            fault(1, "the face isn't the document's: " + own);
        }
        for (String name : found("(?m)^ +(?:private |static |final )*[A-Za-z\\[\\]]+ (\\w+)\\([^;{]*\\) \\{", bare)) {
            if (asked.contains(name)) {
                fault(1, "a method of its own bears the name " + name);
            }
        }
        for (String line : found("(?m)^    (?!private |public |\\}|/| )\\w.*$", bare)) {
            fault(1, "neither private nor public: " + line);
        }
        if (found("\\bpublic\\b", bare).size() != 49 + 3) {
            fault(1, "more that is public");
        }
    }

    private static void library(String bare) {
        Set<String> own = new HashSet<>(found("\\b(?:class|interface|enum) (\\w+)", bare));
        Set<String> allowed = Set.of("String", "StringBuilder", "Math", "Integer", "Long", "System", "Arrays", "TEXT", "SIGN");
        for (String name : new HashSet<>(found("\\b([A-Z][a-z]\\w*)\\b", bare))) {
            if (!own.contains(name) && !allowed.contains(name)) {
                fault(4, name);
            }
        }
        Set<String> calls = Set.of("Math.min", "Math.max", "Integer.bitCount", "System.arraycopy", "Integer.MAX_VALUE");
        for (String call : new HashSet<>(found("\\b(?:Math|Integer|Long|System|Arrays)\\.\\w+", bare))) {
            if (!calls.contains(call)) {
                fault(4, call);
            }
        }
    }

    private static void sizes(String bare) {
        if (found("\\bclass \\w+", bare).size() > 12) {
            fault(11, "more than twelve classes");
        }
        for (String told : found("\\w+ \\w+\\(((?:[\\w\\[\\]]+ \\w+, ){7,}[\\w\\[\\]]+ \\w+)\\) \\{", bare)) {
            fault(11, "more than seven parameters: " + told);
        }
        String[] lines = bare.split("\n");
        int start = 0;
        for (int i = 0; i < lines.length; i++) {
            if (lines[i].matches(" +[^=]*\\w+\\([^;]*\\) \\{") && !lines[i].matches(" +(\\} else )?(if|for|while|switch) .*")) {
                start = i;
            }
            if (lines[i].matches(" +\\}") && i - start > 60 && lines[start].indexOf(lines[start].trim()) == lines[i].indexOf('}')) {
                fault(11, "a long method: " + lines[start].trim());
                start = i;
            }
        }
    }
}
