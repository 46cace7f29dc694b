import java.io.IOException;
import java.lang.invoke.MethodHandles;
import java.lang.reflect.Field;
import java.lang.reflect.Method;
import java.lang.reflect.Modifier;
import java.nio.file.Files;
import java.nio.file.Path;
import java.util.ArrayList;
import java.util.List;
import java.util.function.Consumer;
import java.util.regex.Matcher;
import java.util.regex.Pattern;
import java.util.spi.ToolProvider;

/**
 * README.md: its examples compile as they stand there, each answer that they tell is right, and it
 * names every method and constant.
 *
 * An example is a block of java with an object x. A call tells its answer in a comment behind it, up
 * to a comma: {@code x.count(2);  // 1, the sides clash}.
 */
public final class ReadmeTest {
    private static final Path README = Path.of("README.md");
    private static final Pattern CALL = Pattern.compile("(x\\.\\w+\\(.*\\));(.*)");
    private static final Pattern ANSWER = Pattern.compile("\\s*// (-?[0-9A-Z_][0-9A-Za-z_]*)(,.*)?");
    private static final Checks CHECKS = new Checks();

    public static void main(String[] args) throws IOException, ReflectiveOperationException {
        List<String> lines = Files.readAllLines(README);
        List<List<String>> examples = examples(lines);
        CHECKS.due("README.md has an example", examples.isEmpty() ? 0 : 1, 1);
        everyAnswerIsRight(examples);
        everyMethodIsNamed(String.join("\n", lines));
        everyConstantIsTold(lines);
        CHECKS.end();
    }

    private static List<List<String>> examples(List<String> lines) {
        List<List<String>> examples = new ArrayList<>();
        List<String> open = null;
        for (String line : lines) {
            if (line.equals("```java")) {
                open = new ArrayList<>();
                examples.add(open);
            } else if (line.equals("```")) {
                open = null;
            } else if (open != null) {
                open.add(line);
            }
        }
        return examples;
    }

    /** A call at the start of a line must tell its answer; one that is indented, in a loop, need not. */
    private static String asCheck(String line) {
        Matcher call = CALL.matcher(line);
        if (!call.matches()) {
            return line;
        }
        Matcher answer = ANSWER.matcher(call.group(2));
        boolean isTold = answer.matches();
        CHECKS.due("README.md tells the answer of " + line, isTold ? 1 : 0, 1);
        if (!isTold) {
            return line;
        }
        String due = answer.group(1);
        boolean isConstant = Character.isLetter(due.charAt(0));
        return "checks.due(\"README.md: " + call.group(1).replace("\"", "\\\"") + "\", " + call.group(1) + ", "
            + (isConstant ? "MiddleClaims." : "") + due + ");";
    }

    private static void everyAnswerIsRight(List<List<String>> examples)
            throws IOException, ReflectiveOperationException {
        StringBuilder code = new StringBuilder();
        code.append("final class ReadmeExamples implements java.util.function.Consumer<Checks> {\n");
        code.append("public void accept(Checks checks) {\n");
        for (List<String> example : examples) {
            code.append("{\n");
            for (String line : example) {
                code.append(asCheck(line)).append('\n');
            }
            code.append("}\n");
        }
        code.append("}\n}\n");
        compiled(code.toString()).accept(CHECKS);
    }

    /** The class is made beside this one, so that both mean the same by Checks. */
    @SuppressWarnings("unchecked")
    private static Consumer<Checks> compiled(String code) throws IOException, ReflectiveOperationException {
        Path folder = Files.createTempDirectory("readme");
        Path source = folder.resolve("ReadmeExamples.java");
        Path made = folder.resolve("ReadmeExamples.class");
        try {
            Files.writeString(source, code);
            int failed = ToolProvider.findFirst("javac").orElseThrow().run(System.out, System.out,
                "-cp", System.getProperty("java.class.path"), "-d", folder.toString(), source.toString());
            if (failed != 0) {
                throw new IllegalStateException("the examples of README.md do not compile");
            }
            Class<?> type = MethodHandles.lookup().defineClass(Files.readAllBytes(made));
            return (Consumer<Checks>) type.getDeclaredConstructor().newInstance();
        } finally {
            Files.deleteIfExists(made);
            Files.deleteIfExists(source);
            Files.deleteIfExists(folder);
        }
    }

    private static void everyMethodIsNamed(String text) {
        for (Method each : MiddleClaims.class.getDeclaredMethods()) {
            if (Modifier.isPublic(each.getModifiers())) {
                boolean isNamed = text.contains("`" + each.getName() + "(");
                CHECKS.due("README.md names " + each.getName() + "()", isNamed ? 1 : 0, 1);
            }
        }
    }

    private static void everyConstantIsTold(List<String> lines) throws IllegalAccessException {
        for (Field each : MiddleClaims.class.getDeclaredFields()) {
            if (Modifier.isPublic(each.getModifiers())) {
                String row = "| `" + each.getName() + "` | " + each.getInt(null) + " | ";
                boolean isTold = lines.stream().anyMatch(line -> line.startsWith(row));
                CHECKS.due("README.md has a row " + row, isTold ? 1 : 0, 1);
            }
        }
    }
}
