/** Promises 10 to 14 and 24: the book, what is left, marks told, other laws; also 5 and 6 as to these. */
public final class BookTest {
    private static final String FOUR = "step 0 1 1;step 0 1 2;step 1 2 5 free;step 1 2 9 free;";

    public static void main(String[] args) {
        byRow();
        bySteps();
        byOther();
        full();
        told();
        toldTooMany();
        courts();
        wrong();
        Check.end();
    }

    private static void left(NeverTwice x, int work, int... ways) {
        Check.due("how many are left", x.work(work, 5), ways.length);
        for (int i = 0; i < ways.length; i++) {
            Check.due("left " + i, x.left(work, i), ways[i]);
            Check.due("rank of " + ways[i], x.way(work, ways[i], 3), i);
            Check.due("spent " + ways[i], x.way(work, ways[i], 2), 0);
        }
        Check.due("no more are left", x.left(work, ways.length), -1);
        Check.due("no more are left", x.left(work, Integer.MAX_VALUE), -1);
    }

    private static void byRow() {
        NeverTwice x = Check.town("net 3;" + FOUR + "net 3;" + FOUR);
        left(x, 0, 0, 1, 2, 3);
        Check.due("done(0, 2)", x.done(0, 2), true);
        left(x, 0, 0, 1, 3);
        left(x, 1, 0, 1, 2, 3);
        Check.due("spent", x.way(0, 2, 2), 1);
        Check.due("no rank", x.way(0, 2, 3), -1);
        Check.due("done(0, 2) again", x.done(0, 2), false);
        Check.due("ways refused", x.count(4), 1);
        Check.due("in the book", x.count(2), 1);
        Check.due("done(1, 2)", x.done(1, 2), true);
        Check.due("done(0, 0)", x.done(0, 0), true);
        int[] works = {0, 1, 0};
        int[] ways = {2, 2, 0};
        for (int i = 0; i < 3; i++) {
            Check.due("book(" + i + ", 0)", x.book(i, 0), works[i]);
            Check.due("book(" + i + ", 1)", x.book(i, 1), ways[i]);
        }
        Check.due("done of work 0", x.work(0, 6), 2);
        Check.due("done of work 1", x.work(1, 6), 1);
        left(x, 0, 1, 3);
    }

    private static void bySteps() {
        NeverTwice x = Check.town("net 3 same steps;" + FOUR);
        x.done(0, 3);
        // 3 is 1 and 3 by the dearer free step: the same as 1 and 2
        left(x, 0, 0, 2);
        Check.due("the same one is spent", x.done(0, 1), false);
        Check.due("done(0, 0)", x.done(0, 0), true);
        left(x, 0);
    }

    private static void byOther() {
        NeverTwice x = Check.town("order same other 2;act 0;act 0;act 0;");
        // marks 0 1 3 4 6 7 of ways 0 to 5
        x.done(0, 1);
        left(x, 0, 3, 4, 5);
        x.done(0, 5);
        left(x, 0, 3);
        x.done(0, 3);
        left(x, 0);
        Check.due("done of it", x.work(0, 6), 3);
    }

    private static void full() {
        NeverTwice x = Check.town("set 6;" + Check.times(12, "part 1;") + "order;");
        for (int i = 0; i < 400; i++) {
            x.done(0, 2 * i);
        }
        Check.due("the book is full", x.count(2), 400);
        Check.due("left", x.work(0, 5), 524);
        Check.due("done(0, 1)", x.done(0, 1), false);
        Check.due("done(1, 0)", x.done(1, 0), false);
        Check.due("ways refused", x.count(4), 2);
        Check.due("the way stays left", x.way(1, 0, 2), 0);
        Check.due("the last in the book", x.book(399, 1), 798);
        Check.noSuch("book(400, 0)", () -> x.book(400, 0));
        Check.due("it lasts though the book is full", x.lasts(0, 0), 524);
        Check.due("drawn fails", x.drawn(2, 1000, 1, 2), 4);
        Check.due("which is no refusal", x.count(4), 2);
    }

    private static void told() {
        NeverTwice x = Check.town("net 3 same steps;" + FOUR + "order same other 2;act 0;act 0;act 0;");
        Check.due("judge of none", x.judge(0, 0), -1);
        Check.due("judge of none", x.judge(0, 1), -1);
        Check.due("tell(0, 6)", x.tell(0, 6), 1);
        Check.due("tell(0, 9)", x.tell(0, 9), 2);
        Check.due("judge(0, 0)", x.judge(0, 0), -1);
        Check.due("tell(0, 10)", x.tell(0, 10), 3);
        Check.due("10 is as 6 by free steps", x.judge(0, 0), 2);
        Check.due("which is the first", x.judge(0, 1), 0);
        Check.due("tell(1, 1)", x.tell(1, 1), 1);
        Check.due("marks told of 0", x.work(0, 8), 3);
        Check.due("marks told of 1", x.work(1, 8), 1);
        x.tell(1, 6);
        Check.due("1 and 6 are other", x.judge(1, 0), -1);
        x.tell(1, 7);
        Check.due("7 is as 6", x.judge(1, 0), 2);
        Check.due("which is the second", x.judge(1, 1), 1);
        x.tell(1, -5);
        Check.due("the first stays the first", x.judge(1, 0), 2);
        NeverTwice y = Check.town("order;act 0;act 0;act 0;");
        y.tell(0, 0);
        y.tell(0, 5);
        y.tell(0, 0);
        Check.due("no way", y.judge(0, 0), 1);
        Check.due("no way is as none", y.judge(0, 1), -1);
        y.done(0, 0);
        Check.due("the book counts for nothing", y.judge(0, 0), 1);
        NeverTwice z = Check.town("set 1;part 1;");
        z.tell(0, Integer.MIN_VALUE);
        Check.due("no way at all", z.judge(0, 0), 0);
    }

    private static void toldTooMany() {
        NeverTwice x = Check.town("order;order;");
        for (int i = 1; i <= 100; i++) {
            Check.due("tell " + i, x.tell(0, i), i);
        }
        Check.due("tell 101", x.tell(0, 0), -1);
        Check.due("marks refused", x.count(5), 1);
        Check.due("tell of another", x.tell(1, 0), 1);
        Check.due("marks told", x.work(0, 8), 100);
    }

    private static void courts() {
        NeverTwice x = Check.town("net 3 same steps;" + FOUR + "order same other 9;act 0;act 0;act 0;");
        Check.due("nothing is done", x.court(0, 0, 0), 4);
        x.done(0, 0);
        Check.due("by row", x.court(0, 0, -7), 3);
        Check.due("by steps", x.court(0, 1, 77), 2);
        Check.due("by other 1", x.court(0, 2, 1), 3);
        Check.due("by other 3", x.court(0, 2, 3), 1);
        Check.due("by other 5", x.court(0, 2, 5), 0);
        Check.due("the law stays", x.work(0, 2), 1);
        Check.due("as does what is left", x.work(0, 5), 2);
        NeverTwice y = Check.town("net 3;" + FOUR);
        y.done(0, 1);
        Check.due("by row a dearer one", y.court(0, 0, 0), 3);
        // ways 0 to 3 are 5, 6, 9, 10 by their marks; 6 is as 10 by steps, and other than 5 by 2
        Check.due("by steps a dearer one", y.court(0, 1, 0), 2);
        Check.due("by other 3 a dearer one", y.court(0, 2, 3), 1);
        y.done(0, 0);
        Check.due("by steps both", y.court(0, 1, 0), 0);
        Check.due("another work", x.court(1, 2, 9), 6);
        x.done(1, 0);
        Check.due("all by its own law", x.court(1, 2, 9), 0);
        Check.due("but by other 3", x.court(1, 2, 3), 1);
        Check.illegal("court(0, 3, 1)", () -> x.court(0, 3, 1));
        Check.illegal("court(0, -1, 1)", () -> x.court(0, -1, 1));
        Check.illegal("court(0, 2, 0)", () -> x.court(0, 2, 0));
        Check.illegal("court(0, 2, 10)", () -> x.court(0, 2, 10));
        Check.noSuch("court(2, 2, 10)", () -> x.court(2, 2, 10));
    }

    private static void wrong() {
        NeverTwice x = Check.town("order;act 1;act 2;");
        x.done(0, 0);
        Check.noSuch("done(1, 0)", () -> x.done(1, 0) ? 1 : 0);
        Check.noSuch("done(-1, 0)", () -> x.done(-1, 0) ? 1 : 0);
        Check.noSuch("done(0, 2)", () -> x.done(0, 2) ? 1 : 0);
        Check.noSuch("done(0, -1)", () -> x.done(0, -1) ? 1 : 0);
        Check.noSuch("book(1, 0)", () -> x.book(1, 0));
        Check.noSuch("book(-1, 0)", () -> x.book(-1, 0));
        Check.noSuch("book(0, 2)", () -> x.book(0, 2));
        Check.noSuch("book(0, -1)", () -> x.book(0, -1));
        Check.noSuch("left(1, 0)", () -> x.left(1, 0));
        Check.noSuch("left(0, -1)", () -> x.left(0, -1));
        Check.noSuch("tell(1, 0)", () -> x.tell(1, 0));
        Check.noSuch("judge(1, 0)", () -> x.judge(1, 0));
        Check.noSuch("judge(0, 2)", () -> x.judge(0, 2));
        Check.noSuch("judge(0, -1)", () -> x.judge(0, -1));
        for (int what = 3; what <= 6; what++) {
            Check.due("an exception is no refusal", x.count(what), 0);
        }
    }
}
