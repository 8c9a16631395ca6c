import java.io.File;
import java.io.IOException;
import java.lang.reflect.Method;
import java.lang.reflect.Modifier;
import java.net.URL;
import java.net.URLClassLoader;
import java.nio.file.Files;
import java.nio.file.Path;
import java.util.regex.Matcher;
import java.util.regex.Pattern;
import javax.tools.ToolProvider;

/** README.md says what stands: its example answers as its comments tell, and it names every call and every test. */
public final class ReadmeTest {
    /** A call, perhaps with a name for its answer, and the answer behind it. */
    private static final Pattern ANSWERED = Pattern.compile("((?:int|long|boolean) (\\w+) = )?(.+?);\\s*// (-?\\d+|true|false)\\b.*");

    public static void main(String[] args) throws IOException, ReflectiveOperationException {
        String readme = Files.readString(Path.of("README.md"));
        example(readme);
        texts(readme);
        names(readme);
        Due.close();
    }

    private static void example(String readme) throws IOException, ReflectiveOperationException {
        Matcher block = Pattern.compile("(?s)```java\n(.*?)```").matcher(readme);
        Due.is("README.md has an example", block.find(), true);
        Path folder = Files.createTempDirectory("readme");
        Path source = folder.resolve("Example.java");
        Files.writeString(source, "class Example { static long[] answers() {\n" + answers(block.group(1)) + "} }\n");
        int compiled = ToolProvider.getSystemJavaCompiler().run(null, null, null,
                "-cp", System.getProperty("java.class.path"), "-d", folder.toString(), source.toString());
        Due.is("the example is compiled", compiled, 0);
        try (URLClassLoader loader = new URLClassLoader(new URL[] {folder.toUri().toURL()})) {
            Method method = loader.loadClass("Example").getDeclaredMethod("answers");
            method.setAccessible(true);
            long[] answers = (long[]) method.invoke(null);
            Due.is("some answers", answers.length > 10, true);
            String[] calls = block.group(1).lines().filter(l -> ANSWERED.matcher(l).matches()).toArray(String[]::new);
            for (int i = 0; i < answers.length; i++) {
                Matcher m = ANSWERED.matcher(calls[i]);
                Due.is(calls[i], answers[i], m.matches() ? number(m.group(4)) : 0);
            }
        }
        for (File file : folder.toFile().listFiles()) {
            file.delete();
        }
        Files.delete(folder);
    }

    private static long number(String answer) {
        return answer.equals("true") ? 1 : answer.equals("false") ? 0 : Long.parseLong(answer);
    }

    /** The example's lines, with their answers kept one after the other. */
    private static String answers(String example) {
        StringBuilder code = new StringBuilder();
        int count = 0;
        for (String line : example.split("\n")) {
            Matcher m = ANSWERED.matcher(line);
            if (!m.matches()) {
                code.append(line).append('\n');
                continue;
            }
            code.append(m.group(1) == null ? "" : m.group(1) + m.group(3) + ";\n");
            String value = m.group(1) == null ? m.group(3) : m.group(2);
            boolean isTrue = m.group(4).equals("true") || m.group(4).equals("false");
            code.append("long a").append(count).append(" = ").append(value).append(isTrue ? " ? 1 : 0;\n" : ";\n");
            count++;
        }
        code.append("return new long[] {");
        for (int i = 0; i < count; i++) {
            code.append('a').append(i).append(", ");
        }
        return code.append("};\n").toString();
    }

    /** The texts that README.md shows are texts. */
    private static void texts(String readme) {
        Matcher row = Pattern.compile("(?m)^\\| (move|gift|wish, stop) \\| `(.*)` \\|$").matcher(readme);
        int rows = 0;
        while (row.find()) {
            rows++;
            Told.good(row.group(1).equals("move") ? 0 : row.group(1).equals("gift") ? 1 : 2, row.group(2));
        }
        Due.is("rows of texts", rows, 3);
    }

    private static void names(String readme) {
        for (Method m : FeignedSuit.class.getDeclaredMethods()) {
            if (Modifier.isPublic(m.getModifiers())) {
                Due.is("README.md names " + m.getName(), readme.contains("`" + m.getName() + "`"), true);
            }
        }
        for (File file : new File("src/test/java").listFiles()) {
            String name = file.getName().replace(".java", "");
            Due.is("README.md names " + name, readme.contains("`" + name + "`"), true);
        }
    }
}
