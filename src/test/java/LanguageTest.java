import java.nio.file.Files;
import java.nio.file.Path;
import java.util.regex.Matcher;
import java.util.regex.Pattern;

/** The rules of LANGUAGE.md that can be seen in the text of the class. */
public final class LanguageTest {
    public static void main(String[] args) throws Exception {
        String source = Files.readString(Path.of("src/main/java/RainOnTheOne.java"));
        for (int i = 0; i < source.length(); i++) {
            if (source.charAt(i) > 126) {
                Check.due("sign at " + i, source.charAt(i), 'a');
            }
        }
        String code = bare(source);
        String[] forbidden = {"\\b(throw|throws|try|catch|synchronized|assert|finally|native|volatile)\\b",
            "\\b(import|package|protected|instanceof|yield|var|double|float|goto)\\b", "->", "::",
            "\\b(equals|hashCode|toString|getClass|clone)\\b", "Exact\\b", "@",
            "\\bSystem\\.(?!arraycopy\\b)", "\\bMath\\.(?!max\\b|min\\b)",
            "\\bInteger\\.(?!bitCount\\b)", "\\bwhile *\\( *true", "\\bfor *\\([^;)]*; *;",
            "\\b(Object|Thread|Random|Runtime|Class|Exception|Error)\\b", "\\\"\\\" *\\+"};
        for (String pattern : forbidden) {
            Matcher m = Pattern.compile(pattern).matcher(code);
            Check.due("'" + pattern + "' stands in the code", m.find(), false);
        }
        staticsAreFinal(code);
        methods(code);
        Matcher classes = Pattern.compile("\\b(class|enum|record|interface) [A-Z]").matcher(code);
        Check.due("classes, twelve at most", classes.results().count() <= 12, true);
        Check.finish();
    }

    /** Without comments, and with nothing in its texts. */
    private static String bare(String source) {
        String code = source.replaceAll("(?s)/\\*.*?\\*/", "").replaceAll("//[^\n]*", "");
        return code.replaceAll("\"[^\"\n]*\"", "\"\"").replaceAll("'[^'\n]*'", "' '");
    }

    private static void staticsAreFinal(String code) {
        for (String line : code.split("\n")) {
            boolean field = line.contains(" static ") && !line.contains("(") && !line.contains(" class ");
            Check.due("final: " + line, !field || line.contains(" final "), true);
            boolean seen = line.startsWith("    public ") && line.contains(" static ");
            Check.due("seen: " + line, !seen || line.contains(" NONE "), true);
        }
    }

    /** Sixty lines a method and seven parameters at most; outside none is package-visible. */
    private static void methods(String code) {
        String[] lines = code.split("\n");
        Pattern head = Pattern.compile("^( +)(?!return|else|new)[\\w\\[\\] ]*\\b\\w+\\(([^()]*)\\) \\{$");
        for (int i = 0; i < lines.length; i++) {
            Matcher m = head.matcher(lines[i]);
            boolean method = m.matches() && (m.group(1).length() == 4 || m.group(1).length() == 8)
                    && !lines[i].trim().matches("(if|for|while|switch) .*");
            if (method) {
                int last = i;
                while (last < lines.length && !lines[last].equals(m.group(1) + "}")) {
                    last++;
                }
                Check.due("lines of" + lines[i], last - i <= 60, true);
                int parameters = m.group(2).isBlank() ? 0 : m.group(2).split(",").length;
                Check.due("parameters of" + lines[i], parameters <= 7, true);
                if (m.group(1).length() == 4) {
                    Check.due("seen or not:" + lines[i], lines[i].matches(" +(public|private) .*"), true);
                }
            }
        }
    }
}
