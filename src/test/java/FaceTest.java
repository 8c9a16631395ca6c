import java.io.IOException;
import java.lang.reflect.Constructor;
import java.lang.reflect.Field;
import java.lang.reflect.Method;
import java.lang.reflect.Modifier;
import java.nio.file.Files;
import java.nio.file.Path;
import java.util.TreeSet;
import java.util.regex.Matcher;
import java.util.regex.Pattern;

/** The class has the public face that the document writes out, word for word, and nothing else that can be seen. */
public final class FaceTest {
    public static void main(String[] args) throws IOException {
        TreeSet<String> asked = asked(Files.readString(Path.of("../shared/DOC.md")));
        TreeSet<String> seen = seen();
        Due.is("the document's face has a constant, a constructor and 33 methods", asked.size(), 35);
        for (String member : asked) {
            Due.is("the class has '" + member + "'", seen.contains(member), true);
        }
        for (String member : seen) {
            Due.is("the document has '" + member + "'", asked.contains(member), true);
        }
        int modifiers = FeignedSuit.class.getModifiers();
        Due.is("public and final", Modifier.isPublic(modifiers) && Modifier.isFinal(modifiers), true);
        Due.is("without a package", FeignedSuit.class.getPackageName(), "");
        Due.is("no class above it", FeignedSuit.class.getSuperclass().getName(), "java.lang.Object");
        Due.is("no interfaces", FeignedSuit.class.getInterfaces().length, 0);
        Due.close();
    }

    /** The lines of the document's face, of methods without the names of their parameters. */
    private static TreeSet<String> asked(String document) {
        Matcher face = Pattern.compile("(?s)```java\\s*public final class FeignedSuit \\{(.*?)\\}\\s*```").matcher(document);
        TreeSet<String> lines = new TreeSet<>();
        if (!face.find()) {
            return lines;
        }
        for (String line : face.group(1).split(";")) {
            String member = line.trim().replaceAll("(\\w+) \\w+(?=[,)])", "$1");
            if (!member.isEmpty()) {
                lines.add(member);
            }
        }
        return lines;
    }

    /** Everything in the class that is not private, in the document's form. */
    private static TreeSet<String> seen() {
        TreeSet<String> lines = new TreeSet<>();
        for (Method m : FeignedSuit.class.getDeclaredMethods()) {
            if (!Modifier.isPrivate(m.getModifiers()) && !m.isSynthetic()) {
                lines.add(lead(m.getModifiers()) + m.getReturnType().getSimpleName() + " " + m.getName()
                        + parameters(m.getParameterTypes()));
            }
        }
        for (Constructor<?> c : FeignedSuit.class.getDeclaredConstructors()) {
            lines.add(lead(c.getModifiers()) + "FeignedSuit" + parameters(c.getParameterTypes()));
        }
        for (Field f : FeignedSuit.class.getDeclaredFields()) {
            if (!Modifier.isPrivate(f.getModifiers()) && !f.isSynthetic()) {
                lines.add(lead(f.getModifiers()) + f.getType().getSimpleName() + " " + f.getName() + " = " + FeignedSuit.NONE);
            }
        }
        return lines;
    }

    private static String lead(int modifiers) {
        return modifiers == 0 ? "" : Modifier.toString(modifiers) + " ";
    }

    private static String parameters(Class<?>[] types) {
        StringBuilder b = new StringBuilder("(");
        for (Class<?> type : types) {
            b.append(b.length() > 1 ? ", " : "").append(type.getSimpleName());
        }
        return b.append(")").toString();
    }
}
