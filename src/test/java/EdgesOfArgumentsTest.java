/**
 * Each call of the face with each of its arguments at its edges, beyond them and at the ends of int, all
 * together: what it answers or throws beside the oracle, and that what throws leaves all as it was.
 */
public final class EdgesOfArgumentsTest {
    private static final String TOWN = "set 1 same other 2;part 4;part 1 free;part 1;set 1;part 2;part 3;part 1;part 0;"
            + "net 3 same steps;step 0 1 1;step 0 1 2 free;step 1 2 5;step 1 2 9 free;order same other 2;act 0;act 0;act 1;net 2;";
    private static final int[] ENDS = {Integer.MIN_VALUE, Integer.MIN_VALUE + 1, Integer.MAX_VALUE - 1, Integer.MAX_VALUE};
    private static final int[] WORKS = {-1, 0, 1, 2, 3, 4, 5, 6};
    private static final int[] WAYS = {-1, 0, 1, 2, 3, 4, 5, 6, 7};
    private static final int[] WHATS = {-1, 0, 1, 2, 3, 4, 7, 10};

    private Counted x;
    private Oracle oracle;

    private EdgesOfArgumentsTest() {
    }

    private interface Two {
        long made(Counted x, int a, int b);

        static long of(boolean answer) {
            return answer ? 1 : 0;
        }
    }

    private interface Due {
        long made(Oracle oracle, int a, int b);
    }

    public static void main(String[] args) {
        ofOne();
        ofTwo();
        ofThree();
        ofFour();
        Check.end();
    }

    private static int[] with(int... some) {
        int[] all = new int[some.length + ENDS.length];
        System.arraycopy(some, 0, all, 0, some.length);
        System.arraycopy(ENDS, 0, all, some.length, ENDS.length);
        return all;
    }

    /** Both anew: a town of which some was done, told and given. */
    private void anew() {
        x = Edge.fresh();
        oracle = new Oracle();
        StringBuilder padded = new StringBuilder(TOWN);
        while (padded.length() % 20 != 0) {
            padded.append(' ');
        }
        for (int i = 0; i < padded.length(); i += 20) {
            int[] five = new int[5];
            for (int k = 0; k < 5; k++) {
                five[k] = Check.number(padded, i + 4 * k);
            }
            x.feed(five[0], five[1], five[2], five[3], five[4]);
            oracle.feed(five);
        }
        Edge.is(x.town(TOWN.length()), oracle.town(TOWN.length()));
        for (int work : new int[] {1, 2, 3}) {
            Edge.is(x.done(work, 1), oracle.done(work, 1) == 1);
            Edge.is(x.tell(work, 1), oracle.tell(work, 1));
            Edge.is(x.tell(work, 1), oracle.tell(work, 1));
            Edge.is(x.person(work, 9), oracle.person(work, 9));
        }
    }

    /** Each of some first arguments with each of some second ones. */
    private void all(int[] as, int[] bs, Two call, Due due) {
        int made = Counted.MOST_CALLS;
        for (int a : as) {
            for (int b : bs) {
                if (made > 300) {
                    anew();
                    made = 0;
                }
                String got = Edge.thrownBy(() -> call.made(x, a, b));
                Edge.is(got, Edge.thrownBy(() -> due.made(oracle, a, b)));
                made++;
            }
        }
        // what was refused or has thrown has left both as they were
        Edge.is(x.count(2), oracle.count(2));
        for (int what = 3; what <= 6; what++) {
            Edge.is(x.count(what), oracle.count(what));
        }
        for (int work = 0; work < 5; work++) {
            for (int what = 4; what <= 9; what++) {
                Edge.is(x.work(work, what), oracle.work(work, what));
            }
        }
        Edge.is(x.years(1, 3, 0), oracle.years(1, 3, 0));
    }

    private static void grid(int promise, String name, int[] as, int[] bs, Two call, Due due) {
        Edge.edge(promise, name + " at and beyond the edges of its arguments", x ->
                new EdgesOfArgumentsTest().all(as, bs, call, due));
    }

    private static void ofOne() {
        grid(5, "count", with(-1, 0, 1, 2, 3, 4, 5, 6, 7, 8), new int[] {0}, (x, a, b) -> x.count(a), (o, a, b) -> o.count(a));
        grid(3, "town", with(-2, -1, 1, 2, 20, 700, 701), new int[] {0}, (x, a, b) -> x.town(a), (o, a, b) -> o.town(a));
    }

    private static void ofTwo() {
        grid(6, "work", with(WORKS), with(WHATS), (x, a, b) -> x.work(a, b), (o, a, b) -> o.work(a, b));
        grid(8, "find", with(WORKS), with(-1, 0, 1, 2, 3, 4, 5, 6, 7, 8, 9, 10, 1 << 20, 1 << 30),
                (x, a, b) -> x.find(a, b), (o, a, b) -> o.find(a, b));
        grid(10, "done", with(WORKS), with(WAYS), (x, a, b) -> Two.of(x.done(a, b)), (o, a, b) -> o.done(a, b));
        grid(11, "book", with(-1, 0, 1, 2, 3, 4, 399, 400), with(WHATS), (x, a, b) -> x.book(a, b), (o, a, b) -> o.book(a, b));
        grid(12, "left", with(WORKS), with(-1, 0, 1, 2, 3, 4, 5, 6), (x, a, b) -> x.left(a, b), (o, a, b) -> o.left(a, b));
        grid(13, "tell", with(WORKS), with(-1, 0, 1, 4), (x, a, b) -> x.tell(a, b), (o, a, b) -> o.tell(a, b));
        grid(14, "judge", with(WORKS), with(WHATS), (x, a, b) -> x.judge(a, b), (o, a, b) -> o.judge(a, b));
        grid(16, "weight", with(-1, 0, 1, 2, 98, 99, 100), with(-1, 0, 1, 98, 99, 100),
                (x, a, b) -> Two.of(x.weight(a, b)), (o, a, b) -> o.weight(a, b));
        grid(18, "lasts", with(WORKS), with(WHATS), (x, a, b) -> x.lasts(a, b), (o, a, b) -> o.lasts(a, b));
        grid(21, "person", with(WORKS), with(-1, 0, 1, 9998, 9999, 10000), (x, a, b) -> x.person(a, b), (o, a, b) -> o.person(a, b));
        grid(22, "given", with(WORKS), with(WHATS), (x, a, b) -> x.given(a, b), (o, a, b) -> o.given(a, b));
        grid(23, "more", with(WORKS), with(WHATS), (x, a, b) -> x.more(a, b), (o, a, b) -> o.more(a, b));
    }

    private static void ofThree() {
        for (int what : with(WHATS)) {
            grid(7, "way for " + what, with(WORKS), with(WAYS), (x, a, b) -> x.way(a, b, what), (o, a, b) -> o.way(a, b, what));
            grid(15, "apart for " + what, with(WORKS), with(-1, 0, 1, 2, 4, 30, 31),
                    (x, a, b) -> x.apart(a, b, what), (o, a, b) -> o.apart(a, b, what));
            grid(17, "years for " + what, with(WORKS), with(-1, 0, 1, 2, 3, 4, 5, 100, 101),
                    (x, a, b) -> x.years(a, b, what), (o, a, b) -> o.years(a, b, what));
            grid(20, "joint for " + what, with(WORKS), with(WORKS), (x, a, b) -> x.joint(a, b, what), (o, a, b) -> o.joint(a, b, what));
        }
        for (int work : with(WORKS)) {
            grid(19, "chance of " + work, with(-1, 0, 1, 999, 1000, 1001), with(-1, 0, 1, 3, 99, 100, 101),
                    (x, a, b) -> x.chance(work, a, b), (o, a, b) -> o.chance(work, a, b));
            grid(24, "court of " + work, with(-1, 0, 1, 2, 3), with(-1, 0, 1, 2, 3, 9, 10),
                    (x, a, b) -> x.court(work, a, b), (o, a, b) -> o.court(work, a, b));
            grid(25, "near of " + work, with(WAYS), with(-1, 0, 1, 2, 3, 30, 31),
                    (x, a, b) -> x.near(work, a, b), (o, a, b) -> o.near(work, a, b));
        }
    }

    private static void ofFour() {
        for (int what : with(-1, 0, 1, 2, 3)) {
            for (int work : new int[] {-1, 0, 2, 4, 5}) {
                grid(9, "same of " + work + " for " + what, with(WAYS), with(WAYS),
                        (x, a, b) -> x.same(work, a, b, what), (o, a, b) -> o.same(work, a, b, what));
            }
            for (int seed : with(-1, 0, 1)) {
                grid(26, "drawn by " + seed + " for " + what, with(-1, 0, 1, 2, 100, 101), with(-1, 0, 1, 500, 1000, 1001),
                        (x, a, b) -> x.drawn(a, b, seed, what), (o, a, b) -> o.drawn(a, b, seed, what));
            }
        }
    }
}
