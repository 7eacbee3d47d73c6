import java.lang.reflect.Field;
import java.lang.reflect.Method;
import java.lang.reflect.Modifier;
import java.nio.file.Files;
import java.nio.file.Path;
import java.util.regex.Matcher;
import java.util.regex.Pattern;

/** README.md: its examples answer what it says, and it names each call and each constant. */
public final class ReadmeTest {
    private static final Pattern EXAMPLE = Pattern.compile("shelf\\.(\\w+)\\((.*)\\); +// (-?\\d+).*");

    private static Method named(String name) {
        for (Method method : ShelfSpines.class.getMethods()) {
            if (method.getName().equals(name)) {
                return method;
            }
        }
        throw new IllegalArgumentException("no call " + name);
    }

    private static Object read(String argument) throws ReflectiveOperationException {
        if (argument.equals("true") || argument.equals("false")) {
            return Boolean.valueOf(argument);
        }
        if (argument.startsWith("'")) {
            return (int) argument.charAt(1);
        }
        if (argument.startsWith("ShelfSpines.")) {
            return ShelfSpines.class.getField(argument.substring("ShelfSpines.".length())).get(null);
        }
        return Integer.valueOf(argument);
    }

    private static void ask(ShelfSpines shelf, Matcher example) throws ReflectiveOperationException {
        String[] texts = example.group(2).isEmpty() ? new String[0] : example.group(2).split(", ");
        Object[] arguments = new Object[texts.length];
        for (int i = 0; i < texts.length; i++) {
            arguments[i] = read(texts[i]);
        }
        Number got = (Number) named(example.group(1)).invoke(shelf, arguments);
        Due.same(example.group(), got.intValue(), Integer.parseInt(example.group(3)));
    }

    public static void main(String[] args) throws Exception {
        String readme = Files.readString(Path.of("README.md"));
        ShelfSpines shelf = new ShelfSpines();
        int examples = 0;
        for (String line : readme.split("\n")) {
            Matcher example = EXAMPLE.matcher(line);
            if (example.matches()) {
                ask(shelf, example);
                examples++;
            } else {
                Due.same("an example that is not read: " + line, line.startsWith("shelf.") ? 1 : 0, 0);
            }
        }
        Due.same("there are examples", examples > 0 ? 1 : 0, 1);
        for (Method method : ShelfSpines.class.getDeclaredMethods()) {
            if (Modifier.isPublic(method.getModifiers())) {
                Due.same("names " + method.getName(), readme.contains("| `" + method.getName() + "(") ? 1 : 0, 1);
            }
        }
        for (Field field : ShelfSpines.class.getFields()) {
            Due.same("names " + field.getName(), readme.contains("`" + field.getName() + "`") ? 1 : 0, 1);
        }
        Due.end();
    }
}
