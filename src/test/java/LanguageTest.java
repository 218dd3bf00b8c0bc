import java.io.IOException;
import java.lang.reflect.Field;
import java.lang.reflect.Method;
import java.lang.reflect.Modifier;
import java.nio.file.Files;
import java.nio.file.Path;
import java.util.HashSet;
import java.util.Set;
import java.util.regex.Matcher;
import java.util.regex.Pattern;

/** The rules of LANGUAGE.md that can be seen in the text of the class, or in what it was compiled to. */
public final class LanguageTest {
    private static final String[] RULED_OUT = {
        "\\b(throw|throws|try|catch|synchronized|assert|package|volatile|transient|native|strictfp|protected)\\b",
        "->", "::", "\\bnew\\s+\\w+\\s*\\([^)]*\\)\\s*\\{", "\\bdouble\\b", "\\bfloat\\b", "\\bObject\\b", "\\bThread\\b",
        "\\bMath\\.\\w*Exact\\b", "\\b(equals|hashCode|toString)\\s*\\(", "\\bSystem\\.(?!arraycopy\\b)", "@Override",
        "\\bRandom\\b", "\\bString\\b", "\\bvar\\b", "\\bstatic\\s*\\{",
    };

    private static String code(String text) {
        return text.replaceAll("(?s)/\\*.*?\\*/", "").replaceAll("//[^\\n]*", "");
    }

    private static void staticFields(String code) {
        Matcher fields = Pattern.compile("\\bstatic\\s+(?!final\\b)[^(){};]*[;=]").matcher(code);
        Due.isTrue("static fields are final", !fields.find());
    }

    private static void methods(String text) {
        int length = 0;
        int longest = 0;
        boolean inside = false;
        for (String line : text.split("\\n")) {
            if (line.matches("\\s+(private |public |static |final )*[\\w\\[\\]]+ \\w+\\(.*\\) \\{")) {
                inside = true;
                length = 0;
                String names = line.substring(line.indexOf('(') + 1, line.lastIndexOf(')'));
                Due.isTrue("seven parameters at most: " + line, names.split(",").length <= 7);
            }
            length++;
            if (inside) {
                longest = Math.max(longest, length);
            }
            if (line.matches("( {4}| {8})\\}")) {
                inside = false;
            }
            Due.isTrue("a line of signs 1 to 127, no longer than 120", line.matches("[\\x09\\x20-\\x7e]{0,120}"));
        }
        Due.isTrue("methods have some sixty lines at most: " + longest, longest <= 60);
    }

    private static Set<String> publicNames() {
        Set<String> names = new HashSet<>();
        for (Method method : AllHome.class.getDeclaredMethods()) {
            if (Modifier.isPublic(method.getModifiers())) {
                names.add(method.getName());
            }
        }
        return names;
    }

    private static void compiled(Class<?> made, Set<String> publicNames) {
        for (Method method : made.getDeclaredMethods()) {
            boolean clash = Modifier.isPrivate(method.getModifiers()) && publicNames.contains(method.getName());
            Due.isTrue("no private method bears a public name: " + method, !clash);
        }
        int fields = 0;
        for (Field field : made.getDeclaredFields()) {
            boolean isStatic = Modifier.isStatic(field.getModifiers());
            Due.isTrue("a static field is final: " + field, !isStatic || Modifier.isFinal(field.getModifiers()));
            fields += isStatic ? 0 : 1;
        }
        Due.isTrue("some twenty fields at most: " + made + " has " + fields, fields <= 20);
        for (Class<?> inside : made.getDeclaredClasses()) {
            int kind = inside.getModifiers();
            Due.isTrue("static: " + inside, Modifier.isStatic(kind));
            Due.isTrue("not for others: " + inside, !Modifier.isPublic(kind) && !Modifier.isProtected(kind));
            compiled(inside, publicNames);
        }
    }

    public static void main(String[] args) throws IOException {
        compiled(AllHome.class, publicNames());
        String text = Files.readString(Path.of("src/main/java/AllHome.java"));
        String code = code(text);
        for (String pattern : RULED_OUT) {
            Matcher found = Pattern.compile(pattern).matcher(code);
            Due.isTrue("ruled out: " + pattern + (found.find() ? " at " + found.group() : ""), !found.reset().find());
        }
        Matcher imports = Pattern.compile("\\bimport\\s+([\\w.]+);").matcher(code);
        while (imports.find()) {
            Due.isTrue(imports.group(1), imports.group(1).equals("java.util.Arrays"));
        }
        Matcher classes = Pattern.compile("\\b(class|interface|enum|record)\\s+\\w+").matcher(code);
        int n = 0;
        while (classes.find()) {
            n++;
        }
        Due.isTrue("twelve classes at most: " + n, n <= 12);
        staticFields(code);
        methods(text);
        Due.end("LanguageTest");
    }
}
