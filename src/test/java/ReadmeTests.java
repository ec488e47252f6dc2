import java.lang.reflect.Method;
import java.nio.file.Files;
import java.nio.file.Path;
import java.util.Set;
import java.util.TreeSet;
import java.util.regex.Matcher;
import java.util.regex.Pattern;

/** The calls that README.md shows, on one city and in their order, answer what it says of them. */
final class ReadmeTests {
    private static final Pattern CALL = Pattern.compile("(?m)^city\\.(\\w+)\\(([^)]*)\\); +// (-?\\d+)(?=:|$)");
    private static final Pattern ANY = Pattern.compile("(?m)^\\s*city\\.");

    public static void main(String[] args) throws Exception {
        Check check = new Check("ReadmeTests");
        String page = Files.readString(Path.of("README.md"));
        FreeCity city = new FreeCity();
        Set<String> shown = new TreeSet<>();
        int calls = 0;
        Matcher found = CALL.matcher(page);
        while (found.find()) {
            calls++;
            shown.add(found.group(1));
            check.due(found.group(), answer(city, found.group(1), found.group(2)), Long.parseLong(found.group(3)));
        }
        check.due("calls that show an answer, of all", calls, ANY.matcher(page).results().count());
        check.so("calls of each part are shown: " + shown, shown.size() >= 35);
        for (Method method : FreeCity.class.getDeclaredMethods()) {
            if (java.lang.reflect.Modifier.isPublic(method.getModifiers())) {
                check.so(method.getName() + " is told of", page.contains("`" + method.getName() + "`"));
            }
        }
        check.end();
    }

    private static long answer(FreeCity city, String name, String told) throws Exception {
        String[] words = told.isEmpty() ? new String[0] : told.split(", ");
        for (Method method : FreeCity.class.getDeclaredMethods()) {
            if (method.getName().equals(name)) {
                return (Integer) method.invoke(city, arguments(method.getParameterTypes(), words));
            }
        }
        throw new IllegalStateException("no call " + name);
    }

    private static Object[] arguments(Class<?>[] types, String[] words) {
        if (types.length != words.length) {
            throw new IllegalStateException(types.length + " arguments, not " + words.length);
        }
        Object[] arguments = new Object[words.length];
        for (int i = 0; i < words.length; i++) {
            if (types[i] == boolean.class) {
                arguments[i] = Boolean.valueOf(words[i]);
            } else {
                long number = Long.decode(words[i].replace("L", ""));
                if (types[i] == long.class) {
                    arguments[i] = number;
                } else {
                    arguments[i] = Math.toIntExact(number);
                }
            }
        }
        return arguments;
    }
}
