/** Promises 6, 7, 8, 9: works, their ways and marks, what counts as the same. */
public final class WaysTest {
    public static void main(String[] args) {
        nets();
        sets();
        orders();
        many();
        laws();
        wrong();
        Check.end();
    }

    private static void ways(NeverTwice x, int work, int... costsAndMarks) {
        Check.due("how many ways of " + work, x.work(work, 1), costsAndMarks.length / 2);
        for (int i = 0; i < costsAndMarks.length / 2; i++) {
            Check.due("cost of " + work + ", " + i, x.way(work, i, 0), costsAndMarks[2 * i]);
            Check.due("mark of " + work + ", " + i, x.way(work, i, 1), costsAndMarks[2 * i + 1]);
            Check.due("found of " + work + ", " + i, x.find(work, costsAndMarks[2 * i + 1]), i);
            Check.due("spent of " + work + ", " + i, x.way(work, i, 2), 0);
            Check.due("rank of " + work + ", " + i, x.way(work, i, 3), i);
        }
    }

    private static void nets() {
        NeverTwice x = Check.town("net 4;step 2 3 1;step 0 2 5;step 0 1 2 free;step 1 2 3;step 1 3 9;step 0 2 5 free;");
        ways(x, 0, 6, 3, 6, 13, 6, 33, 11, 20);
        Check.due("kind", x.work(0, 0), 0);
        Check.due("law", x.work(0, 2), 0);
        Check.due("other by", x.work(0, 3), 0);
        Check.due("steps", x.work(0, 4), 6);
        Check.due("left", x.work(0, 5), 4);
        Check.due("done", x.work(0, 6), 0);
        Check.due("free", x.work(0, 7), 4 + 32);
        ways(Check.town("net 3;step 0 1 1;"), 0);
        ways(Check.town("net 3;step 1 2 1;"), 0);
        ways(Check.town("net 2;"), 0);
        ways(Check.town("net 2;step 0 1 0;"), 0, 0, 1);
    }

    private static void sets() {
        NeverTwice x = Check.town("set 2 same other 3;part 4;part 1 free;part 3;part 1;both 1 3;needs 0 2;");
        ways(x, 0, 4, 6, 4, 12, 7, 5);
        Check.due("kind", x.work(0, 0), 1);
        Check.due("law", x.work(0, 2), 2);
        Check.due("other by", x.work(0, 3), 3);
        Check.due("parts", x.work(0, 4), 4);
        Check.due("free", x.work(0, 7), 2);
        ways(Check.town("set 0;"), 0, 0, 0);
        ways(Check.town("set 1;"), 0);
        ways(Check.town("set 0;part 1;part 2;needs 0 1;"), 0, 0, 0);
        ways(Check.town("set 3;part 1;part 2;"), 0);
        ways(Check.town("set 2;part 1;part 2;part 2;needs 0 1;needs 1 2;needs 2 0;"), 0);
        ways(Check.town("set 3;part 1;part 2;part 2;needs 0 1;needs 1 2;needs 2 0;"), 0, 5, 7);
        ways(Check.town("set 1;part 9;part 2;part 9;both 2 0;"), 0, 2, 2, 9, 1, 9, 4);
    }

    private static void orders() {
        NeverTwice x = Check.town("order same steps;act 3;act 2 free;act 1;ahead 0 2;");
        // 012: 3+4+3, 102: 2+6+3, 021: 3+2+6
        ways(x, 0, 10, 7, 11, 3, 11, 6);
        Check.due("kind", x.work(0, 0), 2);
        Check.due("law", x.work(0, 2), 1);
        Check.due("acts", x.work(0, 4), 3);
        Check.due("free is by acts", x.work(0, 7), 2);
        ways(Check.town("order;"), 0, 0, 0);
        ways(Check.town("order;act 7;"), 0, 7, 0);
        ways(Check.town("order;act 1;act 1;ahead 0 1;ahead 1 0;"), 0);
        ways(Check.town("order;act 1;act 2;act 3;act 4;ahead 3 2;ahead 2 1;ahead 1 0;"), 0, 20, 0);
        ways(Check.town("order;act 0;act 0;act 0;act 0;ahead 2 1;ahead 1 0;"), 0,
                0, 0, 0, 32, 0, 32 + 16, 0, 32 + 16 + 8);
        // all orders of three like acts, by mark alone: 2 and 5 are none
        NeverTwice y = Check.town("order;act 0;act 0;act 0;");
        ways(y, 0, 0, 0, 0, 1, 0, 3, 0, 4, 0, 6, 0, 7);
        Check.due("a circle is none", y.find(0, 2), -1);
        Check.due("a circle is none", y.find(0, 5), -1);
    }

    private static void many() {
        StringBuilder net = new StringBuilder("net8;");
        for (int place = 0; place < 6; place++) {
            for (int cost = 0; cost < 3; cost++) {
                net.append("step").append(place).append(' ').append(place + 1).append(' ').append(cost).append(';');
            }
        }
        net.append("step6 7 0;step6 7 9;");
        String set = "set6;" + Check.times(12, "part1;");
        String order = "order;" + Check.times(6, "act999;");
        String text = net + set + order;
        NeverTwice x = Check.town(text);
        Check.due("ways of the net", x.work(0, 1), 1458);
        Check.due("ways of the set", x.work(1, 1), 924);
        Check.due("ways of the order", x.work(2, 1), 720);
        Check.due("the dearest way of the net", x.way(0, 1457, 0), 21);
        Check.due("the last way of the set", x.way(1, 923, 1), 0xfc0);
        Check.due("the cost of the order", x.way(2, 719, 0), 20979);
        Check.due("the last way of the order", x.way(2, 719, 1), 32767);
        int[] most = {1458, 924, 720};
        for (int work = 0; work < 3; work++) {
            for (int from = 0; from < most[work]; from += 90) {
                manyFrom(Check.town(text), work, from, Math.min(from + 90, most[work]));
            }
        }
    }

    /** Ninety ways of one object, of which no more than 512 calls are promised. */
    private static void manyFrom(NeverTwice x, int work, int from, int to) {
        int costAhead = from > 0 ? x.way(work, from - 1, 0) : -1;
        int markAhead = from > 0 ? x.way(work, from - 1, 1) : -1;
        for (int way = from; way < to; way++) {
            int mark = x.way(work, way, 1);
            int cost = x.way(work, way, 0);
            if (work == 0) {
                int due = mark >> 19 == 1 ? 9 : 0;
                for (int step = 0; step < 18; step++) {
                    due += (mark >> step & 1) * (step % 3);
                }
                Check.due("cost of way " + way, cost, due);
                Check.due("steps of way " + way, Integer.bitCount(mark), 7);
                Check.due("way of mark " + mark, x.find(0, mark), way);
            }
            boolean inOrder = cost > costAhead || cost == costAhead && mark > markAhead;
            Check.due("way " + way + " of " + work + " is in its order", inOrder, true);
            costAhead = cost;
            markAhead = mark;
        }
    }

    private static void laws() {
        NeverTwice x = Check.town("net 3;step 0 1 1;step 0 1 2 free;step 1 2 3 free;step 1 2 4 free;"
                + "net 3 same steps;step 0 1 1;step 0 1 2 free;step 1 2 3 free;step 1 2 4 free;"
                + "net 3 same other 3;step 0 1 1;step 0 1 2 free;step 1 2 3 free;step 1 2 4 free;"
                + "order same steps;act 1;act 2 free;act 3;"
                + "set 2 same steps;part 1 free;part 2 free;part 3;");
        // the ways of the nets: 0+2 (5), 0+3 (9), 1+2 (6), 1+3 (10), by costs 4, 5, 5, 6
        int[] marks = {5, 6, 9, 10};
        for (int i = 0; i < 4; i++) {
            for (int j = 0; j < 4; j++) {
                int unlike = Integer.bitCount(marks[i] ^ marks[j]);
                boolean bySteps = ((marks[i] ^ marks[j]) & 1) == 0;
                Check.due("other by", x.same(0, i, j, 0), unlike);
                Check.due("same by row", x.same(0, i, j, 1), i == j ? 1 : 0);
                Check.due("same by steps", x.same(1, i, j, 1), bySteps ? 1 : 0);
                Check.due("same by other 3", x.same(2, i, j, 1), unlike < 3 ? 1 : 0);
            }
        }
        // of the order only whether 0 is ahead of 2 counts
        for (int i = 0; i < 6; i++) {
            for (int j = 0; j < 6; j++) {
                boolean like = (x.way(3, i, 1) & 2) == (x.way(3, j, 1) & 2);
                Check.due("same order " + i + ", " + j, x.same(3, i, j, 1), like ? 1 : 0);
            }
        }
        NeverTwice y = Check.town("order same steps;act 0;act 0;act 0 free;");
        // marks 0 1 3 4 6 7: only bit 0 counts
        int[] counts = {0, 1, 1, 0, 0, 1};
        for (int i = 0; i < 6; i++) {
            for (int j = 0; j < 6; j++) {
                Check.due("same order " + i + ", " + j, y.same(0, i, j, 1), counts[i] == counts[j] ? 1 : 0);
            }
        }
        Check.due("same set", x.same(4, x.find(4, 5), x.find(4, 6), 1), 1);
        Check.due("not the same set", x.same(4, x.find(4, 3), x.find(4, 6), 1), 0);
    }

    private static void wrong() {
        NeverTwice x = Check.town("order;act 1;act 2;");
        Check.noSuch("work(1, 0)", () -> x.work(1, 0));
        Check.noSuch("work(-1, 0)", () -> x.work(-1, 0));
        Check.noSuch("work(0, 10)", () -> x.work(0, 10));
        Check.noSuch("work(0, -1)", () -> x.work(0, -1));
        Check.noSuch("way(1, 0, 0)", () -> x.way(1, 0, 0));
        Check.noSuch("way(0, 2, 0)", () -> x.way(0, 2, 0));
        Check.noSuch("way(0, -1, 0)", () -> x.way(0, -1, 0));
        Check.noSuch("way(0, 0, 4)", () -> x.way(0, 0, 4));
        Check.noSuch("way(0, 0, -1)", () -> x.way(0, 0, -1));
        Check.noSuch("find(1, 0)", () -> x.find(1, 0));
        NeverTwice y = Check.town("set 1;part 1;net 2;");
        Check.due("no way has the mark 0", y.find(0, 0), -1);
        Check.due("no way has the mark 0", y.find(1, 0), -1);
        Check.due("find(0, -1)", x.find(0, -1), -1);
        Check.due("find(0, 2)", x.find(0, 2), -1);
        Check.due("find(0, 1 << 20)", x.find(0, 1 << 20), -1);
        Check.due("find(0, 1 << 20 | 1)", x.find(0, 1 << 20 | 1), -1);
        Check.noSuch("same(1, 0, 0, 0)", () -> x.same(1, 0, 0, 0));
        Check.noSuch("same(0, 2, 0, 0)", () -> x.same(0, 2, 0, 0));
        Check.noSuch("same(0, 0, 2, 0)", () -> x.same(0, 0, 2, 0));
        Check.noSuch("same(0, 0, -1, 0)", () -> x.same(0, 0, -1, 0));
        Check.noSuch("same(0, 0, 0, 2)", () -> x.same(0, 0, 0, 2));
        Check.noSuch("same(0, 0, 0, -1)", () -> x.same(0, 0, 0, -1));
    }
}
