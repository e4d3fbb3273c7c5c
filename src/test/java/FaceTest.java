import java.lang.reflect.Method;
import java.lang.reflect.Modifier;
import java.nio.file.Files;
import java.nio.file.Path;
import java.util.ArrayList;
import java.util.List;
import java.util.regex.Matcher;
import java.util.regex.Pattern;

/** The class shows what "The public face" of the document shows, and no more; run in the project's folder. */
public final class FaceTest extends Bounds {
    private static final Pattern PROMISED = Pattern.compile("## Promise (\\d+): (\\w+)");

    public static void main(String[] args) throws Exception {
        String page = Files.readString(Path.of("../shared/DOC.md"));
        String face = page.substring(page.indexOf("```java") + 7);
        List<String> told = lines(face.substring(0, face.indexOf("```")));
        classItself(told);
        constants(told);
        int promised = 0;
        for (String line : page.split("\n")) {
            Matcher found = PROMISED.matcher(line);
            if (found.matches()) {
                method(found.group(1), found.group(2), told);
                promised++;
            }
        }
        int methods = promised;
        test("promise 2 to 44: the document promises 43 methods", x -> due(methods, 43));
        noMore(told);
        end();
    }

    private static List<String> lines(String block) {
        List<String> lines = new ArrayList<>();
        for (String line : block.split("\n")) {
            if (line.startsWith("    ")) {
                lines.add(line.trim());
            }
        }
        return lines;
    }

    private static void classItself(List<String> told) {
        int how = PricedBases.class.getModifiers();
        test("promise 1: the class is public and final, of no package", x -> {
            due(Modifier.isPublic(how) && Modifier.isFinal(how), true);
            due(PricedBases.class.getPackageName(), "");
            due(PricedBases.class.getSuperclass() == Object.class, true);
            due(PricedBases.class.getInterfaces().length, 0);
        });
        test("promise 1: the constructor is the only one, and public", x -> {
            due(told.contains("public PricedBases();"), true);
            due(PricedBases.class.getDeclaredConstructors().length, 1);
            due(PricedBases.class.getDeclaredConstructors()[0].getParameterCount(), 0);
            due(Modifier.isPublic(PricedBases.class.getDeclaredConstructors()[0].getModifiers()), true);
        });
    }

    private static void constants(List<String> told) throws Exception {
        int none = PricedBases.class.getField("NONE").getInt(null);
        int noValue = PricedBases.class.getField("NO_VALUE").getInt(null);
        test("promise 1: NONE as the face tells it",
            x -> due(told.contains("public static final int NONE = " + none + ";"), true));
        test("promise 1: NO_VALUE as the face tells it",
            x -> due(told.contains("public static final int NO_VALUE = " + noValue + ";"), true));
    }

    /** The face tells the names of parameters, too; what javac keeps are their kinds. */
    private static void method(String promise, String name, List<String> told) {
        test("promise " + promise + ": " + name + " as the face tells it", x -> {
            int met = 0;
            for (Method m : PricedBases.class.getDeclaredMethods()) {
                if (m.getName().equals(name)) {
                    met++;
                    due(m.getModifiers(), Modifier.PUBLIC);
                    due(m.getExceptionTypes().length, 0);
                    due(told.stream().anyMatch(line -> kinds(line).equals(kinds(m))), true);
                }
            }
            due(met, 1);
        });
    }

    private static String kinds(String line) {
        return line.replaceAll("(int|long|boolean) \\w+(?=[,)])", "$1");
    }

    private static String kinds(Method m) {
        StringBuilder text = new StringBuilder("public " + m.getReturnType() + " " + m.getName() + "(");
        for (Class<?> of : m.getParameterTypes()) {
            text.append(text.charAt(text.length() - 1) == '(' ? "" : ", ").append(of);
        }
        return text + ");";
    }

    private static void noMore(List<String> told) {
        test("promise 1: the face tells two constants, a constructor and 43 methods", x -> due(told.size(), 46));
        test("promise 1: no other method can be seen", x -> {
            for (Method m : PricedBases.class.getDeclaredMethods()) {
                due(Modifier.isPrivate(m.getModifiers()) || told.stream().anyMatch(line -> kinds(line).equals(kinds(m))), true);
            }
        });
        test("promise 1: no other field can be seen", x -> {
            for (var f : PricedBases.class.getDeclaredFields()) {
                boolean constant = f.getName().equals("NONE") || f.getName().equals("NO_VALUE");
                due(Modifier.isPrivate(f.getModifiers()), !constant);
            }
        });
        test("promise 1: no class inside can be seen outside", x -> {
            for (Class<?> c : PricedBases.class.getDeclaredClasses()) {
                due(Modifier.isPublic(c.getModifiers()) || Modifier.isProtected(c.getModifiers()), false);
                due(Modifier.isStatic(c.getModifiers()), true);
            }
        });
    }
}
