/** Promises 26, 27, 28: years drawn, the image. */
public final class DrawnTest {
    private static final String FIVE = "part 4;part 1;part 16;part 2;part 8;";

    public static void main(String[] args) {
        sure();
        bySeed();
        full();
        wrong();
        image();
        imageOfAll();
        Check.end();
    }

    private static void sure() {
        NeverTwice x = Check.town("set 1;" + FIVE + "set 1 same other 9;" + FIVE + "net 2;");
        // 1 and 2 of the first, 1 of the second, which then fails, as does the third twice
        Check.due("costs", x.drawn(2, 1000, 7, 0), 1 + 2 + 1);
        Check.due("in the book", x.count(2), 3);
        int[] works = {0, 1, 0};
        int[] ways = {0, 0, 1};
        for (int i = 0; i < 3; i++) {
            Check.due("book(" + i + ", 0)", x.book(i, 0), works[i]);
            Check.due("book(" + i + ", 1)", x.book(i, 1), ways[i]);
        }
        Check.due("left", x.work(1, 5), 0);
        Check.due("done", x.drawn(1, 1000, 7, 1), 1);
        Check.due("failed", x.drawn(3, 1000, 7, 2), 7);
        Check.due("no chance", x.drawn(100, 0, 7, 1), 0);
        Check.due("no chance", x.drawn(100, 0, 7, 2), 0);
        Check.due("a failure is no refusal", x.count(4), 0);
    }

    private static void bySeed() {
        int[] seeds = {0, 1, 5, -1, 12345, Integer.MAX_VALUE, Integer.MIN_VALUE, 99991};
        for (int seed : seeds) {
            for (int chance = 0; chance <= 1000; chance += 125) {
                oneSeed(seed, chance, 9);
            }
        }
        NeverTwice x = Check.town("order;");
        // 12345 >> 16 is 0, so that the first draw by the seed 0 is 0
        Check.due("a draw of 0 is below 1", x.drawn(1, 1, 0, 1), 1);
    }

    private static void oneSeed(int seed, int chance, int years) {
        NeverTwice x = Check.town("set 1;" + FIVE + "set 1 same other 9;" + FIVE + "net 2;order;act 5;act 7;");
        int[] costs = {1, 2, 4, 8, 16};
        int[] taken = new int[4];
        int all = 0;
        int done = 0;
        int failed = 0;
        long state = seed & 0xffffffffL;
        for (int turn = 0; turn < years * 4; turn++) {
            state = (state * 1103515245L + 12345) % (1L << 32);
            if (state / 65536 % 32768 % 1000 >= chance) {
                continue;
            }
            int work = turn % 4;
            int room = work == 0 ? 5 : work == 1 ? 1 : work == 2 ? 0 : 2;
            if (taken[work] < room) {
                all += work == 3 ? 17 + 2 * taken[work] : costs[taken[work]];
                taken[work]++;
                done++;
            } else {
                failed++;
            }
        }
        x.image();
        String name = "drawn by " + seed + ", " + chance;
        Check.due(name, x.drawn(years, chance, seed, 0), all);
        Check.due(name, x.count(2), done);
        x.restore();
        Check.due(name, x.drawn(years, chance, seed, 1), done);
        x.restore();
        Check.due(name, x.drawn(years, chance, seed, 2), failed);
        for (int work = 0; work < 4; work++) {
            Check.due(name + ", done of " + work, x.work(work, 6), taken[work]);
        }
    }

    private static void full() {
        String set = "set6;" + Check.times(12, "part1;");
        NeverTwice x = Check.town(Check.times(6, set));
        Check.due("done", x.drawn(100, 1000, 1, 1), 400);
        Check.due("in the book", x.count(2), 400);
        Check.due("failed", x.drawn(100, 1000, 1, 2), 600);
        Check.due("done of the first", x.work(0, 6), 67);
        Check.due("done of the last", x.work(5, 6), 66);
        x.image();
        x.restore();
        Check.due("left of the first", x.work(0, 5), 924 - 67);
    }

    private static void wrong() {
        NeverTwice x = Check.town("order;act 1;");
        Check.illegal("drawn(0, 0, 1, 0)", () -> x.drawn(0, 0, 1, 0));
        Check.illegal("drawn(101, 0, 1, 0)", () -> x.drawn(101, 0, 1, 0));
        Check.illegal("drawn(1, -1, 1, 0)", () -> x.drawn(1, -1, 1, 0));
        Check.illegal("drawn(1, 1001, 1, 0)", () -> x.drawn(1, 1001, 1, 0));
        Check.noSuch("drawn(0, 1001, 1, 3)", () -> x.drawn(0, 1001, 1, 3));
        Check.noSuch("drawn(1, 1000, 1, -1)", () -> x.drawn(1, 1000, 1, -1));
        Check.due("nothing is done", x.count(2), 0);
    }

    private static void image() {
        NeverTwice x = Check.town("set 1 same other 2;" + FIVE);
        Check.due("there is none", x.restore(), false);
        x.image();
        x.done(0, 1);
        Check.due("restore()", x.restore(), true);
        Check.due("left", x.work(0, 5), 5);
        Check.due("in the book", x.count(2), 0);
        x.done(0, 2);
        x.image();
        x.done(0, 3);
        Check.due("restore() of the newer one", x.restore(), true);
        Check.due("left", x.work(0, 5), 4);
        Check.due("which", x.way(0, 2, 2), 1);
        Check.due("which not", x.way(0, 3, 2), 0);
        x.done(0, 0);
        Check.due("restore() once more", x.restore(), true);
        Check.due("in the book", x.count(2), 1);
        Check.due("book(0, 1)", x.book(0, 1), 2);
    }

    private static void imageOfAll() {
        NeverTwice x = Check.town("order;act 1;act 2;order;");
        x.tell(0, 1);
        x.person(0, 10);
        x.person(1, 20);
        x.weight(0, 7);
        x.done(0, 0);
        x.done(0, 0);
        x.person(0, -1);
        Check.read(x, "?");
        x.image();
        x.tell(0, 1);
        x.tell(1, 1);
        x.person(0, 11);
        x.weight(0, 8);
        x.done(0, 1);
        x.done(0, 0);
        x.person(0, -1);
        Check.feed(x, "orders;");
        x.restore();
        Check.due("the tape is not kept", x.count(1), 20);
        Check.due("a fault", x.town(20), 1);
        x.restore();
        Check.due("in the book", x.count(2), 1);
        Check.due("texts refused", x.count(3), 1);
        Check.due("ways refused", x.count(4), 1);
        Check.due("marks refused", x.count(5), 0);
        Check.due("people refused", x.count(6), 1);
        Check.due("marks told", x.work(0, 8), 1);
        Check.due("marks told", x.work(1, 8), 0);
        Check.due("judged", x.judge(0, 0), -1);
        Check.due("people", x.work(0, 9), 1);
        Check.due("people", x.work(1, 9), 1);
        Check.due("what they give", x.given(0, 0), 10 - 5);
        Check.due("the weight", x.years(0, 1, 0), 35);
        Check.due("left", x.left(0, 0), 1);
    }
}
