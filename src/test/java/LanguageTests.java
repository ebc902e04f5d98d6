import java.io.IOException;
import java.lang.reflect.Field;
import java.lang.reflect.Method;
import java.lang.reflect.Modifier;
import java.nio.charset.StandardCharsets;
import java.nio.file.Files;
import java.nio.file.Path;
import java.util.ArrayList;
import java.util.List;
import java.util.Set;
import java.util.TreeSet;
import java.util.regex.Matcher;
import java.util.regex.Pattern;

/** What can be counted, or found by its word, of the rules of LANGUAGE.md. */
public final class LanguageTests {
    private static final int MOST_CLASSES = 12;
    private static final int MOST_FIELDS = 20;
    private static final int MOST_PARAMETERS = 7;
    private static final int MOST_LINES = 60;
    private static final Set<String> CONSTANTS = Set.of("int", "long", "boolean", "char", "String", "int[]", "long[]",
            "char[]", "byte[]");
    private static final Set<String> IMPORTS = Set.of("java.util.Arrays", "java.util.ArrayList", "java.util.List",
            "java.util.Iterator", "java.util.NoSuchElementException");
    private static final String[] RULED_OUT = {"->", "::", "\\bfinally\\b", "\\bsynchronized\\b", "\\bassert\\b",
            "Exact\\(", "\\bgetMessage\\b", "\\bhashCode\\b", "\\btoString\\(\\)\\s*\\{",
            "\\bstatic\\s*\\{", "\\bextends\\s+\\w*Exception\\b", "\\bThread\\b", "\\bSystem\\.(?!arraycopy)",
            "\\bRandom\\b", "\\bcatch\\s*\\(\\s*(?!RuntimeException|Illegal|IndexOut|Arithmetic|Unsupported|NoSuch)",
            "\\[\\s*]\\s*\\[\\s*]\\s*\\[", "\\bjava\\.(?!util\\.)"};
    private static final Checks CHECKS = new Checks();

    private LanguageTests() {
    }

    public static void main(String[] args) throws IOException {
        String source = Files.readString(Path.of("src/main/java/ConstraintText.java"), StandardCharsets.UTF_8);
        String bare = withoutTexts(source);
        words(bare);
        methodsAreShort(bare);
        List<Class<?>> classes = classes();
        CHECKS.yes("rule 11: classes: " + classes.size(), classes.size() <= MOST_CLASSES);
        for (Class<?> one : classes) {
            fields(one);
            methods(one);
        }
        CHECKS.end("language");
    }

    /** Comments and written texts may say anything. */
    private static String withoutTexts(String source) {
        return source.replaceAll("\"(\\\\.|[^\"\\\\])*\"", "\"\"").replaceAll("(?s)/\\*.*?\\*/", "")
                .replaceAll("//[^\n]*", "");
    }

    private static void words(String bare) {
        CHECKS.no("a package line", bare.contains("\npackage ") || bare.startsWith("package "));
        Matcher imports = Pattern.compile("(?m)^import\\s+(.*);").matcher(bare);
        while (imports.find()) {
            CHECKS.yes("rule 4: import " + imports.group(1), IMPORTS.contains(imports.group(1)));
        }
        for (String word : RULED_OUT) {
            CHECKS.no("ruled out: " + word, Pattern.compile(word).matcher(bare).find());
        }
    }

    /** A method begins in a line that ends with ") {" or "throws .. {" behind a class's indent and ends at that indent. */
    private static void methodsAreShort(String bare) {
        String[] lines = bare.split("\n", -1);
        Pattern head = Pattern.compile("^( {4}| {8})(?! )[^=]*\\).*\\{$");
        Pattern control = Pattern.compile("^\\s*(if|for|while|switch|do|else|}).*");
        int methods = 0;
        for (int i = 0; i < lines.length; i++) {
            Matcher matcher = head.matcher(lines[i]);
            if (!matcher.matches() || control.matcher(lines[i]).matches()) {
                continue;
            }
            int end = i;
            while (end < lines.length && !lines[end].equals(matcher.group(1) + "}")) {
                end++;
            }
            methods++;
            CHECKS.yes("rule 11: lines of" + lines[i], end - i + 1 <= MOST_LINES);
        }
        CHECKS.yes("methods were found", methods > 50);
    }

    private static List<Class<?>> classes() {
        List<Class<?>> classes = new ArrayList<>();
        classes.add(ConstraintText.class);
        for (int i = 0; i < classes.size(); i++) {
            for (Class<?> inside : classes.get(i).getDeclaredClasses()) {
                int flags = inside.getModifiers();
                CHECKS.yes("rule 1: a static class " + inside, Modifier.isStatic(flags));
                CHECKS.no("rule 1: a visible class " + inside, Modifier.isPublic(flags) || Modifier.isProtected(flags));
                classes.add(inside);
            }
        }
        return classes;
    }

    private static void fields(Class<?> one) {
        int own = 0;
        for (Field field : one.getDeclaredFields()) {
            int flags = field.getModifiers();
            if (Modifier.isStatic(flags)) {
                CHECKS.yes("rule 5: a final " + field, Modifier.isFinal(flags));
                CHECKS.yes("rule 5: the type of " + field, CONSTANTS.contains(field.getType().getSimpleName()));
            } else {
                own++;
            }
            boolean face = field.getName().equals("NONE");
            CHECKS.yes("rule 1: a hidden " + field, one != ConstraintText.class || face || Modifier.isPrivate(flags));
        }
        CHECKS.yes("rule 11: fields of " + one, own <= MOST_FIELDS);
    }

    private static void methods(Class<?> one) {
        Set<String> face = new TreeSet<>();
        for (Method method : ConstraintText.class.getDeclaredMethods()) {
            if (Modifier.isPublic(method.getModifiers())) {
                face.add(method.getName());
            }
        }
        for (Method method : one.getDeclaredMethods()) {
            boolean shown = one == ConstraintText.class && Modifier.isPublic(method.getModifiers());
            CHECKS.yes("rule 1: the name of " + method, shown || !face.contains(method.getName()));
            CHECKS.yes("rule 1: a hidden " + method,
                    shown || one != ConstraintText.class || Modifier.isPrivate(method.getModifiers()));
            CHECKS.yes("rule 11: parameters of " + method, method.getParameterCount() <= MOST_PARAMETERS);
        }
    }
}
