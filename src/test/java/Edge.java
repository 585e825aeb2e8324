import java.util.ArrayList;
import java.util.HashSet;
import java.util.List;
import java.util.NoSuchElementException;
import java.util.Set;

/** What the tests of boundary cases share: each edge has a name, its own object, and no more calls than are promised. */
final class Edge {
    interface Body {
        void run(Counted x);
    }

    interface Call {
        Object answer();
    }

    private static final Set<String> NAMES = new HashSet<>();
    private static final List<Counted> OBJECTS = new ArrayList<>();
    private static String name = "";

    private Edge() {
    }

    /** One boundary case of a promise (1 to 28), on a new object. */
    static void edge(int promise, String sentence, Body body) {
        name = "promise " + promise + ": " + sentence;
        Check.due(name + ": is the only one of its name", NAMES.add(name), true);
        OBJECTS.clear();
        try {
            body.run(fresh());
        } catch (RuntimeException thrown) {
            Check.due(name + ": an exception that is not due, behind " + Counted.latest(), thrown.toString(), "none");
        }
        for (Counted x : OBJECTS) {
            Check.due(name + ": calls beyond what is promised", Math.max(0, x.calls() - Counted.MOST_CALLS), 0);
        }
        OBJECTS.clear();
    }

    /** A further new object of the edge. */
    static Counted fresh() {
        Counted x = new Counted();
        OBJECTS.add(x);
        return x;
    }

    /** A further new object of the edge, with a town. */
    static Counted fresh(String text) {
        Counted x = fresh();
        town(x, text);
        return x;
    }

    static void is(long got, long want) {
        Check.due(name + ": " + Counted.latest(), got, want);
    }

    static void is(boolean got, boolean want) {
        is(got ? 1 : 0, want ? 1 : 0);
    }

    static void is(String got, String want) {
        Check.due(name + ": behind " + Counted.latest(), got, want);
    }

    static void noSuch(Call call) {
        is(thrownBy(call), NoSuchElementException.class.getName());
    }

    static void illegal(Call call) {
        is(thrownBy(call), IllegalArgumentException.class.getName());
    }

    /** The name of what a call throws, or its answer. */
    static String thrownBy(Call call) {
        try {
            return "no exception but " + call.answer();
        } catch (RuntimeException thrown) {
            return thrown.getClass().getName();
        }
    }

    /** All that is seen stays as it was through some calls. */
    static void stays(Counted x, Runnable calls) {
        staysBut(x, 0, 0, calls);
    }

    /** All that is seen stays as it was through some calls, but for one status (3 to 6), which grows. */
    static void staysBut(Counted x, int status, int more, Runnable calls) {
        String before = x.look(status);
        int refused = status == 0 ? 0 : x.count(status);
        calls.run();
        String last = Counted.latest();
        is("behind " + last + " " + x.look(status), "behind " + last + " " + before);
        if (status != 0) {
            is(x.count(status), refused + more);
        }
    }

    /** Feeds a text, with blanks behind it up to full twenties, on a tape that is empty. */
    static void feed(Counted x, String text) {
        StringBuilder padded = new StringBuilder(text);
        while (padded.length() % 20 != 0) {
            padded.append(' ');
        }
        for (int i = 0; i < padded.length(); i += 20) {
            int has = x.feed(Check.number(padded, i), Check.number(padded, i + 4), Check.number(padded, i + 8),
                    Check.number(padded, i + 12), Check.number(padded, i + 16));
            is(has, i + 20);
        }
    }

    /** A text that is a town, without a fault. */
    static void town(Counted x, String text) {
        feed(x, text);
        is(x.town(text.length()), 0);
        is(x.fault(), -1);
    }

    /** A text that has just this fault at just this place, on a new object. */
    static void fault(String text, int fault, int place) {
        Counted x = fresh();
        String told = " of [" + text.replace("\n", "\\n") + "]";
        feed(x, text);
        Check.due(name + ": the fault" + told, x.town(text.length()), fault);
        Check.due(name + ": its place" + told, x.fault(), place);
        Check.due(name + ": texts refused" + told, x.count(3), fault == 0 ? 0 : 1);
    }

    /** A text that is a town on a new object. */
    static void good(String text) {
        fault(text, 0, -1);
    }

    static String times(int many, String text) {
        return text.repeat(many);
    }

    /** A text with blanks behind it up to a length. */
    static String padded(String text, int length) {
        return text + " ".repeat(length - text.length());
    }
}
