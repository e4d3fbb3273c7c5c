import java.io.File;
import java.io.PrintWriter;
import java.io.StringWriter;
import java.net.URL;
import java.net.URLClassLoader;
import java.nio.file.Files;
import java.nio.file.Path;
import java.util.ArrayList;
import java.util.List;
import java.util.regex.Matcher;
import java.util.regex.Pattern;
import javax.tools.ToolProvider;

/** The examples of README.md, in their order, on one desk, answer as they say; run in the project's folder. */
public final class ReadmeTest {
    private static final Pattern ANSWERED = Pattern.compile("(\\S.*?); +// (-?\\d+|true|false|NONE|NO_VALUE)\\b.*");

    private final StringBuilder methods = new StringBuilder();
    private final StringBuilder lines = new StringBuilder();
    private int asked = 0;

    public static void main(String[] args) throws Exception {
        ReadmeTest test = new ReadmeTest();
        for (List<String> block : blocks(Files.readAllLines(Path.of("README.md")))) {
            test.take(block);
        }
        int wrong = test.asked < 40 ? 1 : 0;
        wrong += runs(test.source());
        System.out.println(test.asked + " examples, " + wrong + " wrong");
        if (wrong != 0) {
            System.exit(1);
        }
    }

    private static List<List<String>> blocks(List<String> page) {
        List<List<String>> found = new ArrayList<>();
        List<String> block = null;
        for (String line : page) {
            if (line.equals("```java")) {
                block = new ArrayList<>();
                found.add(block);
            } else if (line.equals("```")) {
                block = null;
            } else if (block != null) {
                block.add(line);
            }
        }
        return found;
    }

    /** Methods stand aside; of the other lines each with an answer becomes a question. */
    private void take(List<String> block) {
        boolean method = block.get(0).startsWith("static ");
        for (String line : block) {
            Matcher answered = ANSWERED.matcher(line);
            if (method) {
                methods.append(line).append('\n');
            } else if (answered.matches()) {
                asked++;
                String call = answered.group(1);
                lines.append("due(\"").append(call.replace("\"", "\\\"")).append("\", number(").append(call)
                    .append("), number(").append(answer(answered.group(2))).append("));\n");
            } else {
                lines.append(line).append('\n');
            }
        }
    }

    private static String answer(String told) {
        return told.startsWith("N") ? "PricedBases." + told : told;
    }

    private String source() {
        return "public final class ReadmeExamples {\n"
            + "static int wrong = 0;\n"
            + "static long number(long of) { return of; }\n"
            + "static long number(boolean of) { return of ? 1 : 0; }\n"
            + "static void due(String call, long got, long want) { if (got != want) { wrong++;"
            + " System.out.println(call + \" answered \" + got + \", README.md says \" + want); } }\n"
            + methods + "public static int all() {\n" + lines + "return wrong;\n}\n}\n";
    }

    private static int runs(String source) throws Exception {
        Path made = Files.createTempDirectory("readme");
        Path file = made.resolve("ReadmeExamples.java");
        Files.writeString(file, source);
        String path = System.getProperty("java.class.path");
        StringWriter said = new StringWriter();
        boolean compiled = ToolProvider.getSystemJavaCompiler().getTask(new PrintWriter(said), null, null,
            List.of("-cp", path, "-d", made.toString()), null,
            ToolProvider.getSystemJavaCompiler().getStandardFileManager(null, null, null)
                .getJavaFileObjects(file.toFile())).call();
        int wrong = 1;
        if (compiled) {
            try (URLClassLoader loader = new URLClassLoader(new URL[] {made.toUri().toURL()})) {
                wrong = (int) loader.loadClass("ReadmeExamples").getMethod("all").invoke(null);
            }
        }
        System.out.print(said);
        for (File left : made.toFile().listFiles()) {
            left.delete();
        }
        made.toFile().delete();
        return wrong;
    }
}
