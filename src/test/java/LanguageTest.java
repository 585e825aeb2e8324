import java.io.IOException;
import java.nio.file.Files;
import java.nio.file.Path;
import java.util.regex.Matcher;
import java.util.regex.Pattern;

/** Those rules of ../shared/LANGUAGE.md that can be seen from the text of the program. */
public final class LanguageTest {
    public static void main(String[] args) throws IOException {
        String source = Files.readString(Path.of("src/main/java/NeverTwice.java"));
        for (int i = 0; i < source.length(); i++) {
            Check.due("the sign at " + i + " is of 7 bits", source.charAt(i) < 128, true);
        }
        String code = source.replaceAll("(?s)/\\*.*?\\*/", "").replaceAll("//[^\n]*", "");
        none(code, "->|::", "a lambda, a method reference or an arrow");
        none(code, "\\b(try|catch|finally|synchronized|assert|yield|record|instanceof|package)\\b", "a word that isn't used");
        none(code, "\\b(double|float|var|Object|Random|Thread|Exception)\\b", "a type that isn't used");
        none(code, "@\\w+", "a mark");
        none(code, "\\bfor \\(;|while \\(true\\)", "a loop without an end");
        none(code, "\\+ \"|\" \\+", "texts joined by +");
        none(code, "throw (?!new (IllegalArgumentException|NoSuchElementException)\\(\"[^\"]*\"\\);)", "another throw");
        none(code, "import (?!java\\.util\\.(Arrays|NoSuchElementException);)", "another import");
        none(code, "\\bArrays\\.(?!fill\\()", "another function of Arrays");
        none(code, "\\bInteger\\.(?!bitCount\\()", "another function of Integer");
        none(code, "\\bMath\\.(?!(max|min)\\()", "another function of Math");
        none(code, "\\bSystem\\.(?!arraycopy\\()", "another function of System");
        none(code, "\\bstatic (?!final |\\w+ \\w+\\(|\\w+\\[\\] \\w+\\()", "a static field that isn't final");
        Check.due("classes", count(code, "\\bclass \\w+") <= 12, true);
        methods(code);
        Check.end();
    }

    private static void none(String code, String pattern, String name) {
        Matcher matcher = Pattern.compile(pattern).matcher(code);
        if (matcher.find()) {
            int line = 1 + count(code.substring(0, matcher.start()), "\n");
            Check.due(name + " about line " + line + " without comments", true, false);
        }
    }

    private static int count(String code, String pattern) {
        Matcher matcher = Pattern.compile(pattern).matcher(code);
        int found = 0;
        while (matcher.find()) {
            found++;
        }
        return found;
    }

    /** No method over sixty lines, none of more than seven parameters. */
    private static void methods(String code) {
        Pattern head = Pattern.compile("(?m)^( +)(?:\\w+(?:\\[\\])? )+(\\w+)\\(([^)]*)\\)[^;\n]*\\{$");
        Matcher matcher = head.matcher(code);
        int found = 0;
        while (matcher.find()) {
            if (matcher.group(2).matches("if|for|while|switch")) {
                continue;
            }
            found++;
            int end = code.indexOf("\n" + matcher.group(1) + "}", matcher.end());
            Check.due("the end of " + matcher.group(2), end > 0, true);
            Check.due("lines of " + matcher.group(2), count(code.substring(matcher.start(), end + 1), "\n") <= 60, true);
            Check.due("parameters of " + matcher.group(2), matcher.group(3).split(",").length <= 7, true);
        }
        Check.due("methods are found", found > 80, true);
    }
}
