import java.lang.reflect.Field;
import java.lang.reflect.Method;
import java.lang.reflect.Modifier;
import java.net.URL;
import java.net.URLClassLoader;
import java.nio.file.Files;
import java.nio.file.Path;
import java.util.Set;
import java.util.regex.Matcher;
import java.util.regex.Pattern;
import javax.tools.ToolProvider;

/**
 * README.md is held against the class: the calls of its example answer what their comments say, and
 * it names each call and each constant with its number.
 */
public final class ReadmeTests {
    private static final Pattern BLOCK = Pattern.compile("(?s)```java\n(.*?)```");
    private static final Pattern CALL = Pattern.compile(
            "^(?:int (\\w+) = )?(x\\.\\w+\\(.*\\));\\s*// (-?\\d+|[A-Z]+)\\b.*$");
    private static int wrong = 0;
    private static int calls = 0;

    public static void main(String[] args) throws Exception {
        Path root = Path.of(args.length > 0 ? args[0] : ".");
        String page = Files.readString(root.resolve("README.md"));
        Matcher block = BLOCK.matcher(page);
        if (block.find()) {
            runExample(block.group(1));
        } else {
            fault("no example");
        }
        checkNames(page);
        System.out.println(calls + " calls of the example, " + wrong + " faults");
        if (wrong != 0) {
            System.exit(1);
        }
    }

    private static void fault(String what) {
        wrong++;
        System.out.println("README.md: " + what);
    }

    /** Each call is wrapped so that its answer is compared with the number behind it. */
    private static String asProgram(String example) {
        StringBuilder body = new StringBuilder();
        for (String line : example.split("\n")) {
            Matcher call = CALL.matcher(line);
            if (call.matches()) {
                calls++;
                String name = call.group(1) == null ? "answer" + calls : call.group(1);
                String type = call.group(1) == null ? "long " : "int ";
                String due = call.group(3);
                String want = Character.isLetter(due.charAt(0)) ? "TreeTongues." + due : due;
                body.append(type).append(name).append(" = ").append(call.group(2)).append(";\n")
                        .append("if (").append(name).append(" != ").append(want)
                        .append(") { wrong++; System.out.println(\"README.md: ")
                        .append(call.group(2)).append(" answered \" + ").append(name)
                        .append(" + \", there stands ").append(due).append("\"); }\n");
            } else if (line.contains("x.")) {
                fault("no answer behind " + line);
            } else {
                body.append(line).append('\n');
            }
        }
        return "public final class ReadmeExample {\npublic static int run() {\nint wrong = 0;\n"
                + body + "return wrong;\n}\n}\n";
    }

    private static void runExample(String example) throws Exception {
        Path place = Files.createTempDirectory("readme");
        Path file = place.resolve("ReadmeExample.java");
        Files.writeString(file, asProgram(example));
        int failed = ToolProvider.getSystemJavaCompiler().run(null, null, null, "-cp",
                System.getProperty("java.class.path"), "-d", place.toString(), file.toString());
        if (failed != 0) {
            fault("the example does not compile");
        } else {
            try (URLClassLoader loader = new URLClassLoader(new URL[] {place.toUri().toURL()})) {
                Method run = loader.loadClass("ReadmeExample").getMethod("run");
                wrong += (Integer) run.invoke(null);
            }
        }
        Files.deleteIfExists(place.resolve("ReadmeExample.class"));
        Files.deleteIfExists(file);
        Files.deleteIfExists(place);
    }

    private static void checkNames(String page) throws Exception {
        for (Method m : TreeTongues.class.getDeclaredMethods()) {
            if (Modifier.isPublic(m.getModifiers()) && !page.contains("`" + m.getName() + "`")) {
                fault("does not name " + m.getName());
            }
        }
        for (String name : Set.of("NONE", "BAD", "NOT", "FULL", "LARGE")) {
            Field constant = TreeTongues.class.getDeclaredField(name);
            String told = "\\| " + constant.getInt(null) + " +\\| `" + name + "`|`" + name + "` \\("
                    + constant.getInt(null) + "\\)";
            if (!Pattern.compile(told).matcher(page).find()) {
                fault("does not tell the number of " + name);
            }
        }
    }
}
