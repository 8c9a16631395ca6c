import java.io.IOException;
import java.nio.file.Files;
import java.nio.file.Path;
import java.util.ArrayList;
import java.util.List;
import java.util.TreeSet;
import java.util.regex.Matcher;
import java.util.regex.Pattern;

/** Rules of LANGUAGE.md that can be seen from the source and the compiled face. */
public final class SourceRulesTest {
    private static int wrong = 0;

    public static void main(String[] args) throws IOException {
        String source = bare(Files.readString(Path.of("src/main/java/FeignedSuit.java")));
        for (String word : new String[] {"throw", "throws", "try", "catch", "synchronized", "assert", "var", "volatile",
            "native", "goto", "System.out", "Object", "Exception", "equals", "hashCode", "lambda", "protected"}) {
            absent(source, "\\b" + Pattern.quote(word) + "\\b", word);
        }
        absent(source, "->", "an arrow");
        absent(source, "::", "a method reference");
        absent(source, "\\w+Exact\\b", "a function whose name ends in Exact");
        absent(source, "String\\s*\\[", "an array of Strings");
        absent(source, "static\\s*\\{", "a static block");
        absent(source, "static (?!final)(?!boolean \\w+\\()(?!int \\w+\\()[^(;{]*[;=]", "a static field that is not final");
        imports(source);
        library(source);
        lengths(source);
        face();
        System.out.println(wrong == 0 ? "the source keeps to the rules looked at" : wrong + " rules broken");
        if (wrong != 0) {
            System.exit(1);
        }
    }

    private static String bare(String source) {
        return source.replaceAll("(?s)/\\*.*?\\*/", "").replaceAll("//[^\n]*", "").replaceAll("\"[^\"\n]*\"", "\"\"");
    }

    private static void say(String what) {
        wrong++;
        System.out.println(what);
    }

    private static void absent(String source, String pattern, String what) {
        Matcher m = Pattern.compile(pattern).matcher(source);
        if (m.find()) {
            say("the source has " + what + ": " + m.group());
        }
    }

    private static void imports(String source) {
        Matcher m = Pattern.compile("import ([^;]*);").matcher(source);
        while (m.find()) {
            if (!List.of("java.util.Arrays", "java.util.ArrayList", "java.util.List").contains(m.group(1))) {
                say("import of " + m.group(1));
            }
        }
    }

    private static void library(String source) {
        TreeSet<String> allowed = new TreeSet<>(List.of("Arrays.fill", "Arrays.copyOf", "Arrays.copyOfRange",
                "System.arraycopy", "Math.min", "Math.max", "Integer.bitCount", "Long.bitCount", "Integer.compare"));
        Matcher m = Pattern.compile("\\b(Arrays|System|Math|Integer|Long|String|Character)\\.(\\w+)").matcher(source);
        while (m.find()) {
            if (!allowed.contains(m.group())) {
                say("call of " + m.group());
            }
        }
    }

    private static void lengths(String source) {
        String[] lines = source.split("\n");
        int began = 0;
        String name = "";
        for (int i = 0; i < lines.length; i++) {
            if (lines[i].matches("( {4}| {8})[\\w\\[\\] ]*\\([^;]*\\) \\{") && !lines[i].contains(" new ")) {
                began = i;
                name = lines[i].trim();
                if (name.chars().filter(c -> c == ',').count() > 6) {
                    say("more than seven parameters: " + name);
                }
            }
            if (lines[i].matches(" {4}\\}| {8}\\}") && i - began > 60 && !name.isEmpty()) {
                say("longer than sixty lines: " + name);
            }
            if (lines[i].matches(" {4}\\}| {8}\\}")) {
                name = "";
            }
        }
    }

    /** Nothing but the face can be seen from outside, and no other method has a name of the face. */
    private static void face() {
        TreeSet<String> names = new TreeSet<>();
        for (java.lang.reflect.Method m : FeignedSuit.class.getDeclaredMethods()) {
            if (java.lang.reflect.Modifier.isPublic(m.getModifiers())) {
                names.add(m.getName());
            }
        }
        if (names.size() != 33) {
            say("the face has " + names.size() + " methods");
        }
        List<Class<?>> classes = new ArrayList<>(List.of(FeignedSuit.class.getDeclaredClasses()));
        if (classes.size() > 11) {
            say("more than twelve classes");
        }
        classes.add(FeignedSuit.class);
        for (Class<?> c : classes) {
            fields(c);
            for (java.lang.reflect.Method m : c.getDeclaredMethods()) {
                boolean own = c == FeignedSuit.class;
                boolean seen = java.lang.reflect.Modifier.isPublic(m.getModifiers());
                boolean hidden = java.lang.reflect.Modifier.isPrivate(m.getModifiers());
                if ((!own || !seen) && names.contains(m.getName())) {
                    say(c.getSimpleName() + " has a method by a name of the face: " + m.getName());
                }
                if (own && !seen && !hidden) {
                    say("a method that can be seen: " + m.getName());
                }
            }
        }
    }

    private static void fields(Class<?> c) {
        int fields = 0;
        for (java.lang.reflect.Field f : c.getDeclaredFields()) {
            int modifiers = f.getModifiers();
            if (!java.lang.reflect.Modifier.isStatic(modifiers)) {
                fields++;
            }
            if (java.lang.reflect.Modifier.isStatic(modifiers) && !java.lang.reflect.Modifier.isFinal(modifiers)) {
                say(c.getSimpleName() + " has a static field that is not final: " + f.getName());
            }
            if (c == FeignedSuit.class && !f.getName().equals("NONE") && !java.lang.reflect.Modifier.isPrivate(modifiers)) {
                say("a field that can be seen: " + f.getName());
            }
        }
        if (fields > 20) {
            say(c.getSimpleName() + " has " + fields + " fields");
        }
    }
}
