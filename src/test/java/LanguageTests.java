import java.lang.reflect.Field;
import java.lang.reflect.Modifier;
import java.nio.file.Files;
import java.nio.file.Path;
import java.util.ArrayList;
import java.util.List;
import java.util.Set;
import java.util.regex.Matcher;
import java.util.regex.Pattern;

/** Those rules of ../shared/LANGUAGE.md that can be seen in the source and in the classes made of it. */
final class LanguageTests {
    private static final Check CHECK = new Check("LanguageTests");
    private static final Set<Class<?>> LISTS = Set.of(List.class, ArrayList.class, StringBuilder.class);
    private static final String[] FORBIDDEN = {
        "\\b(throw|throws|try|catch|finally|synchronized|assert|native|volatile|package|protected|Object|var)\\b",
        "->", "::", "\\w+Exact\\b", "\\b(hashCode|toString|getClass|System\\.(?!arraycopy\\b)\\w+|Thread|Random)\\b",
        "\\bstatic\\s*\\{", "\\bstatic (?!final|boolean|int|void|long)\\w+", "\\[\\]\\[\\]\\[\\]", "\"\\s*\\+|\\+\\s*\""};

    public static void main(String[] args) throws Exception {
        String source = Files.readString(Path.of("src/main/java/FreeCity.java"));
        for (int i = 0; i < source.length(); i++) {
            if (source.charAt(i) > 126) {
                CHECK.so("a sign beyond 126 at " + i, false);
            }
        }
        String code = source.replaceAll("(?s)/\\*.*?\\*/", " ").replaceAll("//[^\n]*", " ").replaceAll("'[^']'", "' '");
        for (String each : FORBIDDEN) {
            Matcher found = Pattern.compile(each).matcher(code);
            CHECK.so(each, !found.find());
        }
        Matcher imports = Pattern.compile("\\bimport ([\\w.*]+);").matcher(code);
        while (imports.find()) {
            CHECK.so(imports.group(), imports.group(1).matches("java\\.util\\.(Arrays|ArrayList|List|Iterator)"));
        }
        int classes = 0;
        Matcher heads = Pattern.compile("\\bclass \\w+").matcher(code);
        while (heads.find()) {
            classes++;
        }
        CHECK.so("twelve classes at most: " + classes, classes <= 12);
        methods(code);
        fields(FreeCity.class);
        for (Class<?> inside : FreeCity.class.getDeclaredClasses()) {
            fields(inside);
        }
        CHECK.end();
    }

    private static void fields(Class<?> type) {
        int own = 0;
        for (Field field : type.getDeclaredFields()) {
            Class<?> held = field.getType();
            while (held.isArray()) {
                held = held.getComponentType();
            }
            boolean plain = held.isPrimitive() || held == String.class;
            if (Modifier.isStatic(field.getModifiers())) {
                boolean constant = Modifier.isFinal(field.getModifiers()) && (plain || held.isEnum());
                CHECK.so(field + " is a constant", constant);
            } else {
                own++;
                boolean inside = held.getEnclosingClass() == FreeCity.class;
                CHECK.so(field + " is of a type of rule 3", plain || inside || LISTS.contains(held));
            }
        }
        CHECK.so(type + " has " + own + " fields", own <= 20);
    }

    private static void methods(String code) {
        Matcher heads = Pattern.compile("\n( +)(?:[\\w\\[\\]]+ )+(\\w+)\\(([^)]*)\\) \\{\n").matcher(code);
        while (heads.find()) {
            String name = heads.group(2);
            int end = code.indexOf("\n" + heads.group(1) + "}\n", heads.start() + 1);
            long lines = code.substring(heads.start() + 1, Math.max(heads.start() + 1, end)).lines().count();
            CHECK.so(name + " has " + lines + " lines", lines <= 60);
            CHECK.so(name + " has seven parameters at most", heads.group(3).split(",").length <= 7);
        }
    }
}
