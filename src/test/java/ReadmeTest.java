import java.io.IOException;
import java.lang.reflect.InvocationTargetException;
import java.lang.reflect.Method;
import java.nio.file.Files;
import java.nio.file.Path;
import java.util.Set;
import java.util.TreeSet;
import java.util.regex.Matcher;
import java.util.regex.Pattern;

/** Each call that README.md shows answers what README.md shows; every call of the face is shown. */
public final class ReadmeTest {
    private static final String NEW = "NeverTwice x = new NeverTwice();";
    private static final Pattern CALL = Pattern.compile("x\\.(\\w+)\\(([^)]*)\\); +// (-?\\w+)(.*)");
    private static final Set<String> SHOWN = new TreeSet<>();

    private static NeverTwice x;
    private static int calls;

    private ReadmeTest() {
    }

    public static void main(String[] args) throws IOException, ReflectiveOperationException {
        String readme = Files.readString(Path.of("README.md"));
        Matcher block = Pattern.compile("(?s)```java\n(.*?)```").matcher(readme);
        int blocks = 0;
        while (block.find()) {
            blocks++;
            x = null;
            for (String line : block.group(1).split("\n")) {
                look(line);
            }
        }
        Check.due("blocks of calls", blocks, 3);
        Set<String> face = new TreeSet<>();
        for (Method method : NeverTwice.class.getMethods()) {
            if (method.getDeclaringClass() == NeverTwice.class) {
                face.add(method.getName());
            }
        }
        Check.due("the calls shown", SHOWN.toString(), face.toString());
        places(readme);
        Check.end();
    }

    private static void look(String line) throws ReflectiveOperationException {
        if (line.isEmpty() || line.startsWith("//")) {
            return;
        }
        if (line.equals(NEW)) {
            x = new NeverTwice();
            calls = 0;
            return;
        }
        Matcher call = CALL.matcher(line);
        boolean shown = call.matches() && x != null;
        Check.due("README.md: [" + line + "] shows a call and its answer", shown, true);
        if (shown) {
            compare(call.group(1), numbers(call.group(2)), call.group(3), call.group(4));
        }
    }

    private static int[] numbers(String told) {
        if (told.isEmpty()) {
            return new int[0];
        }
        String[] parts = told.split(", ");
        int[] numbers = new int[parts.length];
        for (int i = 0; i < parts.length; i++) {
            numbers[i] = Integer.decode(parts[i]);
        }
        return numbers;
    }

    private static void compare(String name, int[] numbers, String want, String more) throws ReflectiveOperationException {
        SHOWN.add(name);
        Check.due("calls of an object, at most 512", ++calls <= 512, true);
        StringBuilder told = new StringBuilder("README.md: ").append(name);
        Class<?>[] types = new Class<?>[numbers.length];
        Object[] given = new Object[numbers.length];
        for (int i = 0; i < numbers.length; i++) {
            types[i] = int.class;
            given[i] = numbers[i];
            told.append(i == 0 ? "(" : ", ").append(numbers[i]);
        }
        Check.due(told.append(numbers.length == 0 ? "()" : ")").toString(), answer(name, types, given), want(name, want));
        if (name.equals("feed")) {
            Check.due(told + " feeds", more, " \"" + text(numbers) + "\"");
        }
    }

    /** Of a call that answers nothing the words behind it say what it does. */
    private static String want(String name, String want) {
        return name.equals("image") && !want.endsWith("Exception") ? "null" : want;
    }

    private static String answer(String name, Class<?>[] types, Object[] given) throws ReflectiveOperationException {
        try {
            return String.valueOf(NeverTwice.class.getMethod(name, types).invoke(x, given));
        } catch (InvocationTargetException thrown) {
            return thrown.getCause().getClass().getSimpleName();
        }
    }

    private static String text(int[] numbers) {
        StringBuilder text = new StringBuilder();
        for (int number : numbers) {
            for (int shift = 24; shift >= 0; shift -= 8) {
                text.append((char) (number >> shift & 255));
            }
        }
        return text.toString();
    }

    private static void places(String readme) {
        Matcher named = Pattern.compile("`((?:\\.\\.?/|\\.ci/|src/|NOTES)[\\w./]*)`").matcher(readme);
        int found = 0;
        while (named.find()) {
            found++;
            Check.due(named.group(1) + " is there", Files.exists(Path.of(named.group(1))), true);
        }
        Check.due("places are named", found >= 6, true);
    }
}
