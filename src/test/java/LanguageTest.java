import java.io.IOException;
import java.nio.file.Files;
import java.nio.file.Path;
import java.util.regex.Matcher;
import java.util.regex.Pattern;

/** The rules of LANGUAGE.md that can be seen in the text of the class. */
public final class LanguageTest {
    private static final String[] RULED_OUT = {
        "\\b(throw|throws|try|catch|synchronized|assert|package|volatile|transient|native|strictfp|protected)\\b",
        "->", "::", "\\bnew\\s+\\w+\\s*\\([^)]*\\)\\s*\\{", "\\bdouble\\b", "\\bfloat\\b", "\\bObject\\b", "\\bThread\\b",
        "\\bMath\\.\\w*Exact\\b", "\\b(equals|hashCode|toString)\\s*\\(", "\\bSystem\\.(?!arraycopy\\b)", "@Override",
        "\\bRandom\\b", "\\bString\\b", "\\bvar\\b", "\\bstatic\\s*\\{",
    };

    private static String code(String text) {
        return text.replaceAll("(?s)/\\*.*?\\*/", "").replaceAll("//[^\\n]*", "");
    }

    private static void staticFields(String code) {
        Matcher fields = Pattern.compile("\\bstatic\\s+(?!final\\b)[^(){};]*[;=]").matcher(code);
        Due.isTrue("static fields are final", !fields.find());
    }

    private static void methods(String text) {
        int length = 0;
        int longest = 0;
        boolean inside = false;
        for (String line : text.split("\\n")) {
            if (line.matches("\\s+(private |public |static |final )*[\\w\\[\\]]+ \\w+\\(.*\\) \\{")) {
                inside = true;
                length = 0;
                String names = line.substring(line.indexOf('(') + 1, line.lastIndexOf(')'));
                Due.isTrue("seven parameters at most: " + line, names.split(",").length <= 7);
            }
            length++;
            if (inside) {
                longest = Math.max(longest, length);
            }
            if (line.matches("( {4}| {8})\\}")) {
                inside = false;
            }
            Due.isTrue("a line of signs 1 to 127, no longer than 120", line.matches("[\\x09\\x20-\\x7e]{0,120}"));
        }
        Due.isTrue("methods have some sixty lines at most: " + longest, longest <= 60);
    }

    public static void main(String[] args) throws IOException {
        String text = Files.readString(Path.of("src/main/java/AllHome.java"));
        String code = code(text);
        for (String pattern : RULED_OUT) {
            Matcher found = Pattern.compile(pattern).matcher(code);
            Due.isTrue("ruled out: " + pattern + (found.find() ? " at " + found.group() : ""), !found.reset().find());
        }
        Matcher imports = Pattern.compile("\\bimport\\s+([\\w.]+);").matcher(code);
        while (imports.find()) {
            Due.isTrue(imports.group(1), imports.group(1).equals("java.util.Arrays"));
        }
        Matcher classes = Pattern.compile("\\b(class|interface|enum|record)\\s+\\w+").matcher(code);
        int n = 0;
        while (classes.find()) {
            n++;
        }
        Due.isTrue("twelve classes at most: " + n, n <= 12);
        staticFields(code);
        methods(text);
        Due.end("LanguageTest");
    }
}
