import java.io.IOException;
import java.nio.file.Files;
import java.nio.file.Path;
import java.util.List;
import java.util.regex.Matcher;
import java.util.regex.Pattern;

/** What of LANGUAGE.md can be seen in the lines of the source; its path is the first argument. */
public final class RulesTest {
    private static final String[] NEVER = {"catch", "finally", "synchronized", "assert ", "->", "::", "MAX_VALUE", "MIN_VALUE",
        "static {", "getMessage", "System.out", "System.nano", "System.current", "Random", "Exact", "instanceof", "protected ",
        ".equals(", ".hashCode(", ".toString(", "package ", "Object", "var "};

    private RulesTest() {
    }

    public static void main(String[] args) throws IOException {
        Path path = Path.of(args.length > 0 ? args[0] : "src/main/java/FarFolders.java");
        String source = Files.readString(path);
        String code = source.replaceAll("(?s)/\\*.*?\\*/", "").replaceAll("//[^\n]*", "");
        for (String word : NEVER) {
            Check.due("the word " + word, code.contains(word), false);
        }
        imports(code);
        library(code);
        thrown(code);
        methods(source.lines().toList());
        Check.due("signs 1 to 127 alone", source.chars().allMatch(c -> c > 0 && c < 128), true);
        Check.close("RulesTest");
    }

    private static void imports(String code) {
        Matcher m = Pattern.compile("import ([\\w.]+);").matcher(code);
        while (m.find()) {
            Check.due("import " + m.group(1), m.group(1).equals("java.util.NoSuchElementException"), true);
        }
    }

    private static void library(String code) {
        Matcher m = Pattern.compile("\\b(Math|Integer|Long|System|Arrays)\\.(\\w+)").matcher(code);
        List<String> fine = List.of("Math.max", "Math.min", "Integer.bitCount", "System.arraycopy");
        while (m.find()) {
            Check.due("library " + m.group(), fine.contains(m.group()), true);
        }
    }

    private static void thrown(String code) {
        Matcher m = Pattern.compile("throw ([^;]*);").matcher(code);
        while (m.find()) {
            Check.due("throw " + m.group(1), m.group(1).equals("new NoSuchElementException()"), true);
        }
    }

    /** Short methods with few parameters. */
    private static void methods(List<String> lines) {
        Pattern head = Pattern.compile("^( +)(?:\\w+(?:\\[\\])? )+(\\w+)\\(([^)]*)\\).*\\{$");
        for (int i = 0; i < lines.size(); i++) {
            Matcher m = head.matcher(lines.get(i));
            if (!m.matches() || lines.get(i).contains(" else ") || m.group(1).length() > 8) {
                continue;
            }
            int end = i;
            while (!lines.get(end).equals(m.group(1) + "}")) {
                end++;
            }
            Check.due(m.group(2) + " has " + (end - i) + " lines", end - i <= 60, true);
            Check.due(m.group(2) + " has few parameters", m.group(3).split(",").length <= 7, true);
        }
    }
}
