import java.nio.file.Files;
import java.nio.file.Path;
import java.util.ArrayDeque;
import java.util.Deque;
import java.util.regex.Matcher;
import java.util.regex.Pattern;

/** What of LANGUAGE.md can be seen in the text of the program: words, lengths, parameters. */
public final class LanguageTest {
    private static final String[] FORBIDDEN = {
        "throw", "throws", "try", "catch", "synchronized", "assert", "package", "protected", "lambda", "Exception",
        "Object", "native", "volatile", "transient", "strictfp", "double", "float", "hashCode", "toString",
        "HashMap", "Map", "Set", "Stream", "Random", "Thread", "currentTimeMillis", "nanoTime"};

    public static void main(String[] args) throws Exception {
        Check check = new Check();
        String text = Files.readString(Path.of("src/main/java/BellTrees.java"));
        for (int i = 0; i < text.length(); i++) {
            check.holds("sign at " + i, text.charAt(i) < 127);
        }
        String code = text.replaceAll("(?s)/\\*.*?\\*/", " ").replaceAll("//[^\n]*", " ")
            .replaceAll("'(\\\\.|[^'])'", "0").replaceAll("\"[^\"]*\"", "\"\"");
        for (String word : FORBIDDEN) {
            check.holds("no " + word, !Pattern.compile("\\b" + word + "\\b").matcher(code).find());
        }
        check.holds("no arrow, no method reference", !code.contains("->") && !code.contains("::"));
        Matcher imports = Pattern.compile("import ([^;]*);").matcher(code);
        while (imports.find()) {
            check.holds("import " + imports.group(1), imports.group(1).matches("java\\.util\\.(Arrays|ArrayList|List)"));
        }
        lengths(check, code);
        check.end();
    }

    /** Methods of sixty lines and seven parameters at most, twelve classes at most. */
    private static void lengths(Check check, String code) {
        String[] lines = text(code);
        Deque<Integer> opened = new ArrayDeque<>();
        int classes = 0;
        for (int i = 0; i < lines.length; i++) {
            for (char sign : lines[i].toCharArray()) {
                if (sign == '{') {
                    opened.push(i);
                } else if (sign == '}') {
                    int from = opened.pop();
                    boolean ofClass = lines[from].matches(".*\\b(class|interface|enum|record)\\b.*");
                    classes += ofClass ? 1 : 0;
                    check.holds("lines " + from + " to " + i, ofClass || i - from < 60);
                }
            }
            Matcher head = Pattern.compile("^\\s+[\\w\\[\\] ]+\\(([^()]*)\\) \\{$").matcher(lines[i]);
            if (head.find()) {
                check.holds("parameters at " + i, head.group(1).split(",").length <= 7);
            }
        }
        check.holds(classes + " classes", classes <= 12);
        check.due("open braces at the end", opened.size(), 0);
    }

    private static String[] text(String code) {
        return code.split("\n");
    }
}
