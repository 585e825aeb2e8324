import java.util.NoSuchElementException;

/** What the tests share: feeding texts, comparing answers, counting what is wrong. */
final class Check {
    private static int wrong = 0;
    private static int checked = 0;

    interface Call {
        long answer();
    }

    private Check() {
    }

    static void due(String call, long got, long want) {
        checked++;
        if (got != want) {
            wrong++;
            System.out.println(call + " answered " + got + ", due is " + want);
        }
    }

    static void due(String call, boolean got, boolean want) {
        due(call, got ? 1 : 0, want ? 1 : 0);
    }

    static void noSuch(String call, Call made) {
        due(call + " throws", thrownBy(made), NoSuchElementException.class.getName());
    }

    static void illegal(String call, Call made) {
        due(call + " throws", thrownBy(made), IllegalArgumentException.class.getName());
    }

    static void due(String call, String got, String want) {
        checked++;
        if (!got.equals(want)) {
            wrong++;
            System.out.println(call + " answered " + got + ", due is " + want);
        }
    }

    private static String thrownBy(Call made) {
        try {
            made.answer();
            return "nothing";
        } catch (RuntimeException thrown) {
            return thrown.getClass().getName();
        }
    }

    /** A new object with a town. */
    static NeverTwice town(String text) {
        NeverTwice x = new NeverTwice();
        due("town of " + text, read(x, text), 0);
        return x;
    }

    /** Feeds a text (the tape must be empty) and makes it the town. */
    static int read(NeverTwice x, String text) {
        feed(x, text);
        return x.town(text.length());
    }

    /** Feeds a text with blanks behind it up to full twenties. */
    static void feed(NeverTwice x, String text) {
        StringBuilder padded = new StringBuilder(text);
        while (padded.length() % 20 != 0) {
            padded.append(' ');
        }
        for (int i = 0; i < padded.length(); i += 20) {
            x.feed(number(padded, i), number(padded, i + 4), number(padded, i + 8),
                    number(padded, i + 12), number(padded, i + 16));
        }
    }

    static int number(CharSequence text, int i) {
        return (text.charAt(i) & 255) << 24 | (text.charAt(i + 1) & 255) << 16
                | (text.charAt(i + 2) & 255) << 8 | text.charAt(i + 3) & 255;
    }

    /** A text must have just this fault at just this place. */
    static void fault(String text, int fault, int place) {
        NeverTwice x = new NeverTwice();
        String name = "[" + text.replace("\n", "\\n") + "]";
        due("town of " + name, read(x, text), fault);
        due("fault of " + name, x.fault(), place);
        due("texts refused of " + name, x.count(3), fault == 0 ? 0 : 1);
    }

    static String times(int many, String text) {
        return text.repeat(many);
    }

    static void end() {
        System.out.println(checked + " answers, " + wrong + " wrong");
        if (wrong != 0) {
            System.exit(1);
        }
    }
}
