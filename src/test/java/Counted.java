/**
 * An object under test, which tells its latest call and counts all of them: the document promises
 * nothing of an object behind its 512th call, so no edge may need more.
 */
final class Counted {
    static final int MOST_CALLS = 512;

    private static String latest = "nothing";

    private final NeverTwice x = new NeverTwice();
    private int calls;

    int calls() {
        return calls;
    }

    /** The latest call of any object, with its arguments. */
    static String latest() {
        return latest;
    }

    private void tell(String name, int... numbers) {
        calls++;
        StringBuilder told = new StringBuilder(name).append('(');
        for (int i = 0; i < numbers.length; i++) {
            told.append(i == 0 ? "" : ", ").append(numbers[i]);
        }
        latest = told.append(')').toString();
    }

    int feed(int a, int b, int c, int d, int e) {
        tell("feed", a, b, c, d, e);
        return x.feed(a, b, c, d, e);
    }

    int town(int n) {
        tell("town", n);
        return x.town(n);
    }

    int fault() {
        tell("fault");
        return x.fault();
    }

    int count(int what) {
        tell("count", what);
        return x.count(what);
    }

    int work(int work, int what) {
        tell("work", work, what);
        return x.work(work, what);
    }

    int way(int work, int way, int what) {
        tell("way", work, way, what);
        return x.way(work, way, what);
    }

    int find(int work, int mark) {
        tell("find", work, mark);
        return x.find(work, mark);
    }

    int same(int work, int way, int other, int what) {
        tell("same", work, way, other, what);
        return x.same(work, way, other, what);
    }

    boolean done(int work, int way) {
        tell("done", work, way);
        return x.done(work, way);
    }

    int book(int i, int what) {
        tell("book", i, what);
        return x.book(i, what);
    }

    int left(int work, int i) {
        tell("left", work, i);
        return x.left(work, i);
    }

    int tell(int work, int mark) {
        tell("tell", work, mark);
        return x.tell(work, mark);
    }

    int judge(int work, int what) {
        tell("judge", work, what);
        return x.judge(work, what);
    }

    int apart(int work, int number, int what) {
        tell("apart", work, number, what);
        return x.apart(work, number, what);
    }

    boolean weight(int year, int weight) {
        tell("weight", year, weight);
        return x.weight(year, weight);
    }

    int years(int work, int years, int what) {
        tell("years", work, years, what);
        return x.years(work, years, what);
    }

    int lasts(int work, int what) {
        tell("lasts", work, what);
        return x.lasts(work, what);
    }

    int chance(int work, int chance, int years) {
        tell("chance", work, chance, years);
        return x.chance(work, chance, years);
    }

    int joint(int work, int other, int what) {
        tell("joint", work, other, what);
        return x.joint(work, other, what);
    }

    int person(int work, int gives) {
        tell("person", work, gives);
        return x.person(work, gives);
    }

    int given(int work, int what) {
        tell("given", work, what);
        return x.given(work, what);
    }

    int more(int work, int what) {
        tell("more", work, what);
        return x.more(work, what);
    }

    int court(int work, int law, int number) {
        tell("court", work, law, number);
        return x.court(work, law, number);
    }

    int near(int work, int way, int number) {
        tell("near", work, way, number);
        return x.near(work, way, number);
    }

    int drawn(int years, int chance, int seed, int what) {
        tell("drawn", years, chance, seed, what);
        return x.drawn(years, chance, seed, what);
    }

    void image() {
        tell("image");
        x.image();
    }

    boolean restore() {
        tell("restore");
        return x.restore();
    }

    /** The latest fault and the counts of works, bytes, the book, and of each status but one (3 to 6; 0 for none). */
    private String counts(int but) {
        StringBuilder seen = new StringBuilder("fault ").append(fault()).append(" counts");
        for (int what = 0; what <= 6; what++) {
            seen.append(' ').append(what == but && but > 0 ? "-" : Integer.toString(count(what)));
        }
        seen.append(" book");
        for (int i = 0; i < Math.min(count(2), 6); i++) {
            seen.append(' ').append(book(i, 0)).append(':').append(book(i, 1));
        }
        return seen.toString();
    }

    /** What can be asked of a work without a change; of its ways the first six. */
    private String work(int work) {
        StringBuilder seen = new StringBuilder("\nwork ").append(work).append(':');
        for (int what = 0; what <= 9; what++) {
            seen.append(' ').append(work(work, what));
        }
        for (int way = 0; way < Math.min(work(work, 1), 6); way++) {
            seen.append(" way");
            for (int what = 0; what <= 3; what++) {
                seen.append(' ').append(way(work, way, what));
            }
        }
        seen.append(" judged ").append(judge(work, 0)).append(' ').append(judge(work, 1));
        seen.append(" given");
        for (int what = 0; what <= 3; what++) {
            seen.append(' ').append(given(work, what));
        }
        seen.append(" years");
        for (int years = 1; years <= 3; years++) {
            seen.append(' ').append(years(work, years, 0));
        }
        return seen.toString();
    }

    /** All that is seen of the object, but for one status (3 to 6; 0 for none): some 30 calls, and some 30 of a work. */
    String look(int but) {
        StringBuilder seen = new StringBuilder(counts(but));
        int works = count(0);
        for (int work = 0; work < works; work++) {
            seen.append(work(work));
        }
        return seen.toString();
    }
}
