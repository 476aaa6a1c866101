import java.io.IOException;
import java.lang.reflect.Field;
import java.net.URL;
import java.net.URLClassLoader;
import java.nio.charset.StandardCharsets;
import java.nio.file.Files;
import java.nio.file.Path;
import java.util.regex.Matcher;
import java.util.regex.Pattern;
import javax.tools.ToolProvider;

/** README.md's calls are compiled and must answer what stands behind them; the names of its refusals must be the class's. */
public final class ReadmeTest {
    private static final Pattern ANSWERED = Pattern.compile("(.*?);\\s*// (-?\\d+)\\b.*");
    private static int asked = 0;
    private static int wrong = 0;

    private static void due(String what, long got, long want) {
        asked++;
        if (got != want) {
            wrong++;
            System.out.println("README.md: " + what + " answered " + got + ", due is " + want);
        }
    }

    public static void main(String[] args) throws Exception {
        String page = Files.readString(Path.of("README.md"), StandardCharsets.UTF_8);
        calls(page);
        refusals(page);
        promised(page);
        System.out.println(wrong == 0 ? asked + " answers are as README.md says" : wrong + " answers are not as README.md says");
        if (wrong != 0 || asked < 30) {
            System.exit(1);
        }
    }

    /** The page's calls as a class that answers, of each call with an answer behind it, what it got. */
    private static void calls(String page) throws Exception {
        int from = page.indexOf("```java\n") + 8;
        StringBuilder body = new StringBuilder();
        StringBuilder told = new StringBuilder();
        for (String line : page.substring(from, page.indexOf("```", from)).split("\n")) {
            Matcher m = ANSWERED.matcher(line);
            if (!m.matches()) {
                body.append(line).append('\n');
            } else if (m.group(1).contains(" = ")) {
                body.append(m.group(1)).append("; got.add((long) ").append(m.group(1).split(" ")[1]).append(");\n");
                told.append(m.group(2)).append(' ').append(m.group(1)).append('\n');
            } else {
                body.append("got.add((long) ").append(m.group(1)).append(");\n");
                told.append(m.group(2)).append(' ').append(m.group(1)).append('\n');
            }
        }
        Object got = run(body.toString());
        String[] lines = told.toString().split("\n");
        for (int i = 0; i < lines.length; i++) {
            String[] parts = lines[i].split(" ", 2);
            due(parts[1], (Long) ((java.util.List<?>) got).get(i), Long.parseLong(parts[0]));
        }
    }

    private static Object run(String body) throws Exception {
        Path dir = Files.createTempDirectory("readme");
        try {
            Path file = dir.resolve("Page.java");
            Files.writeString(file, "public class Page { public static java.util.List<Long> run() { java.util.List<Long> got ="
                + " new java.util.ArrayList<>();\n" + body + "return got; } }\n");
            String path = System.getProperty("java.class.path");
            int failed = ToolProvider.getSystemJavaCompiler().run(null, null, null, "-cp", path, "-d", dir.toString(), file.toString());
            if (failed != 0) {
                throw new IOException("README.md's calls do not compile");
            }
            try (URLClassLoader loader = new URLClassLoader(new URL[] {dir.toUri().toURL()})) {
                return loader.loadClass("Page").getMethod("run").invoke(null);
            }
        } finally {
            Files.deleteIfExists(dir.resolve("Page.java"));
            Files.deleteIfExists(dir.resolve("Page.class"));
            Files.deleteIfExists(dir);
        }
    }

    /** Each constant of the class stands in the table with its number. */
    private static void refusals(String page) throws IllegalAccessException {
        for (Field f : JoinDraws.class.getFields()) {
            Matcher m = Pattern.compile("\\| (-\\d+) \\| `" + f.getName() + "` \\|").matcher(page);
            due("the table's " + f.getName(), m.find() ? Long.parseLong(m.group(1)) : 0, f.getType() == int.class ? f.getInt(null) : f.getLong(null));
        }
    }

    /** Each call stands in the table of calls. */
    private static void promised(String page) {
        for (java.lang.reflect.Method m : JoinDraws.class.getDeclaredMethods()) {
            if (java.lang.reflect.Modifier.isPublic(m.getModifiers())) {
                due("calls named " + m.getName(), Pattern.compile("(?m)^\\|.*`" + m.getName() + "`.*\\|").matcher(page).find() ? 1 : 0, 1);
            }
        }
    }
}
