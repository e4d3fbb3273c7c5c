import java.nio.charset.StandardCharsets;
import java.nio.file.Files;
import java.nio.file.Path;
import java.util.regex.Matcher;
import java.util.regex.Pattern;

/** What of LANGUAGE.md can be seen in the text of the class; run in the project's folder. */
public final class LanguageTest {
    private static final String[] NEVER = {
        "\\b(throw|throws|try|catch|finally|synchronized|assert|native|volatile|transient|instanceof)\\b", "->", "::",
        "\\bExact\\w*\\(|\\w+Exact\\(", "\\bSystem\\.(?!arraycopy\\()", "\\bimport\\s+(?!java\\.util\\.Arrays;)",
        "\\b(Object|Class|Thread|Random|HashMap|Map|Set|Long\\.valueOf|Integer\\.valueOf)\\b", "^package", "\\bvar\\b",
        "\\bArrays\\.(?!fill\\(|copyOf\\(|copyOfRange\\()", "\\.(hashCode|toString|equals)\\(", "\\bprotected\\b",
        "\\bstatic\\s*\\{", "\\bwhile\\s*\\(true\\)", "\\bfor\\s*\\(\\s*;", "[^\\x00-\\x7f]",
    };

    private static int wrong = 0;

    private static void check(boolean right, String what) {
        if (!right) {
            wrong++;
            System.out.println(what);
        }
    }

    public static void main(String[] args) throws Exception {
        String text = Files.readString(Path.of("src/main/java/PricedBases.java"), StandardCharsets.ISO_8859_1);
        String code = text.replaceAll("(?s)/\\*.*?\\*/", "").replaceAll("//[^\\n]*", "").replaceAll("\"[^\"\\n]*\"", "\"\"");
        for (String never : NEVER) {
            Matcher found = Pattern.compile(never, Pattern.MULTILINE).matcher(code);
            while (found.find()) {
                check(false, "stands in the class: " + found.group());
            }
        }
        Matcher classes = Pattern.compile("\\bclass\\s+(\\w+)").matcher(code);
        int many = 0;
        while (classes.find()) {
            many++;
        }
        check(many <= 12, many + " classes");
        Matcher inner = Pattern.compile("^ +(.*)\\bclass\\s+(\\w+)", Pattern.MULTILINE).matcher(code);
        while (inner.find()) {
            check(inner.group(1).equals("private static final "), "a class inside that is not private, static, final: " + inner.group(2));
        }
        Matcher statics = Pattern.compile("^ *(private |public )?static (?!final |class )(\\w+(\\[\\])*) \\w+( =|;)", Pattern.MULTILINE).matcher(code);
        check(!statics.find(), "a static field that is not final");
        methods(code);
        names();
        System.out.println(wrong == 0 ? "the class keeps to the language" : wrong + " breaches");
        if (wrong != 0) {
            System.exit(1);
        }
    }

    /** Length and parameters of each method, by the indent of its closing brace. */
    private static void methods(String code) {
        Matcher heads = Pattern.compile("^( {4}| {8})(\\w(?:\\w|[ \\[\\]])*)\\(([^)]*)\\) \\{\\n((?s).*?)^\\1\\}", Pattern.MULTILINE).matcher(code);
        int many = 0;
        while (heads.find()) {
            many++;
            check(heads.group(3).split(",").length <= 7, "more than seven parameters: " + heads.group(2));
            check(heads.group(4).split("\n").length <= 60, "longer than sixty lines: " + heads.group(2));
        }
        check(many > 100, "too few methods were found: " + many);
    }

    /** No private method bears the name of a public one, and only the face can be seen. */
    private static void names() {
        java.util.Set<String> seen = new java.util.HashSet<>();
        for (var m : PricedBases.class.getDeclaredMethods()) {
            if (java.lang.reflect.Modifier.isPublic(m.getModifiers())) {
                seen.add(m.getName());
            }
        }
        for (var m : PricedBases.class.getDeclaredMethods()) {
            int how = m.getModifiers();
            check(java.lang.reflect.Modifier.isPublic(how) || java.lang.reflect.Modifier.isPrivate(how), "to be seen: " + m);
            check(java.lang.reflect.Modifier.isPublic(how) || !seen.contains(m.getName()), "a public name: " + m);
        }
        for (Class<?> c : PricedBases.class.getDeclaredClasses()) {
            for (var m : c.getDeclaredMethods()) {
                check(!seen.contains(m.getName()), "a public name: " + m);
            }
            int fields = 0;
            for (var f : c.getDeclaredFields()) {
                fields += java.lang.reflect.Modifier.isStatic(f.getModifiers()) ? 0 : 1;
            }
            check(fields <= 20, fields + " fields: " + c);
        }
    }
}
