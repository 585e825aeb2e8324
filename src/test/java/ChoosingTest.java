/** Promises 15, 20, 23, 25: ways apart, joint ones, a step more, near ones. */
public final class ChoosingTest {
    private static final String FOUR = "step 0 1 1;step 0 1 2;step 1 2 5;step 1 2 9;";

    public static void main(String[] args) {
        apart();
        apartOfMany();
        joint();
        jointOfUnlikeLengths();
        more();
        near();
        Check.end();
    }

    private static void spread(NeverTwice x, int work, int number, int many, int cost, int bits) {
        Check.due("apart by " + number, x.apart(work, number, 0), many);
        Check.due("apart by " + number + ", cost", x.apart(work, number, 1), cost);
        Check.due("apart by " + number + ", which", x.apart(work, number, 2), bits);
    }

    private static void apart() {
        // marks 5 (6), 6 (7), 9 (10), 10 (11): 5 and 10, 6 and 9 are other by 4
        NeverTwice x = Check.town("net 3;" + FOUR + "net 3;");
        spread(x, 0, 0, 4, 34, 15);
        spread(x, 0, 2, 4, 34, 15);
        spread(x, 0, 3, 2, 17, 6);
        spread(x, 0, 5, 1, 6, 1);
        spread(x, 0, 30, 1, 6, 1);
        spread(x, 1, 0, 0, 0, 0);
        x.done(0, 0);
        spread(x, 0, 3, 2, 17, 3);
        x.done(0, 1);
        spread(x, 0, 3, 1, 10, 1);
        Check.illegal("apart(0, 31, 0)", () -> x.apart(0, 31, 0));
        Check.illegal("apart(0, -1, 0)", () -> x.apart(0, -1, 0));
        Check.noSuch("apart(0, 31, 3)", () -> x.apart(0, 31, 3));
        Check.noSuch("apart(0, 1, -1)", () -> x.apart(0, 1, -1));
        Check.noSuch("apart(2, 31, 0)", () -> x.apart(2, 31, 0));
        // of like cost those that are first: marks 5, 6, 9, 10 all of 2
        NeverTwice y = Check.town("net 3;step 0 1 1;step 0 1 1;step 1 2 1;step 1 2 1;");
        spread(y, 0, 4, 2, 4, 6);
    }

    private static void apartOfMany() {
        NeverTwice x = Check.town("set 1;" + Check.times(12, "part 3;") + "order;" + Check.times(6, "act 2;"));
        spread(x, 0, 2, 12, 36, 4095);
        spread(x, 0, 3, 1, 3, 1);
        spread(x, 1, 1, 14, 14 * 42, 16383);
        // the last marks are those with most bits: the 14 cheapest are the first ones of like cost
        int[] marks = new int[14];
        for (int i = 0; i < 14; i++) {
            marks[i] = x.way(1, i, 1);
        }
        int most = 0;
        for (int bits = 0; bits < 1 << 14; bits++) {
            boolean fits = true;
            for (int i = 0; i < 14; i++) {
                for (int j = 0; j < i; j++) {
                    boolean both = (bits >> i & 1) != 0 && (bits >> j & 1) != 0;
                    fits &= !both || Integer.bitCount(marks[i] ^ marks[j]) >= 3;
                }
            }
            most = fits ? Math.max(most, Integer.bitCount(bits)) : most;
        }
        Check.due("apart by 3 of many", x.apart(1, 3, 0), most);
    }

    private static void pair(NeverTwice x, int one, int two, int mark, int cost, int saves) {
        Check.due("joint mark", x.joint(one, two, 0), mark);
        Check.due("joint cost", x.joint(one, two, 1), cost);
        Check.due("joint saves", x.joint(one, two, 2), saves);
    }

    private static void joint() {
        NeverTwice x = Check.town("set 2;part 1;part 5;part 3;set 2;part 4;part 1;part 2;part 9;order;set 1;part 1;"
                + "set 0;set 0;part 1;");
        // greater costs 4, 5, 3
        pair(x, 0, 1, 5, 7, 4 + 3 - 7);
        pair(x, 1, 0, 5, 7, 0);
        pair(x, 0, 3, -1, -1, 0);
        pair(x, 4, 5, 0, 0, 0);
        x.done(0, 0);
        pair(x, 0, 1, 6, 8, 6 + 3 - 8);
        pair(x, 1, 0, 6, 8, 1);
        x.done(1, 0);
        pair(x, 0, 1, 3, 9, 6 + 5 - 9);
        x.done(1, 1);
        pair(x, 0, 1, -1, -1, 0);
        Check.noSuch("joint(0, 0, 0)", () -> x.joint(0, 0, 0));
        Check.noSuch("joint(0, 2, 0)", () -> x.joint(0, 2, 0));
        Check.noSuch("joint(2, 0, 0)", () -> x.joint(2, 0, 0));
        Check.noSuch("joint(0, 6, 0)", () -> x.joint(0, 6, 0));
        Check.noSuch("joint(-1, 0, 0)", () -> x.joint(-1, 0, 0));
        Check.noSuch("joint(0, 1, 3)", () -> x.joint(0, 1, 3));
        Check.noSuch("joint(0, 1, -1)", () -> x.joint(0, 1, -1));
    }

    private static void jointOfUnlikeLengths() {
        // of like cost the least mark, though the other is cheaper in the first set
        NeverTwice x = Check.town("set 1;part 2;part 1;set 1;part 1;part 2;part 0;set 1;part 9;part 9;part 9;part 9;");
        pair(x, 0, 1, 1, 2, 1 + 0 - 2);
        pair(x, 1, 0, 1, 2, -1);
        pair(x, 1, 2, 1, 9, 0);
        // a text read before must not shine through the parts that are not told anew
        Check.due("a town", Check.read(x, "set 1;part 2;set 1;part 3;part 1;"), 0);
        pair(x, 0, 1, 1, 3, 0);
        pair(x, 1, 0, 1, 3, 0);
        Check.due("a town", Check.read(x, "set 2;part 1;part 1;part 1;both 0 1;set 2;part 1;part 1;part 1;needs 0 1;"), 0);
        pair(x, 0, 1, 6, 2, 2);
        // each its own law: in the first one all is spent by one
        Check.due("a town", Check.read(x, "set 1 same other 9;part 1;part 2;set 1;part 3;part 4;"), 0);
        x.done(1, 0);
        pair(x, 0, 1, 2, 4, 1 + 4 - 4);
        x.done(0, 0);
        pair(x, 0, 1, -1, -1, 0);
    }

    private static void step(NeverTwice x, int work, int from, int to, int ways) {
        Check.due("more from", x.more(work, 0), from);
        Check.due("more to", x.more(work, 1), to);
        Check.due("more ways", x.more(work, 2), ways);
    }

    private static void more() {
        NeverTwice x = Check.town("net 2;net 3;net 3;step 0 1 1;net 4;step 0 1 1;step 0 1 1;step 2 3 1;step 2 3 1;"
                + "step 2 3 1;order;");
        step(x, 0, 0, 1, 1);
        step(x, 1, 0, 2, 1);
        step(x, 2, 0, 2, 1);
        step(x, 3, 1, 2, 6);
        Check.noSuch("more(4, 0)", () -> x.more(4, 0));
        Check.noSuch("more(5, 0)", () -> x.more(5, 0));
        Check.noSuch("more(0, 3)", () -> x.more(0, 3));
        Check.noSuch("more(0, -1)", () -> x.more(0, -1));
        // the steps may be told in any order; what is spent counts too
        NeverTwice y = Check.town("net 3;step 1 2 1;step 0 1 1;net 12;");
        y.done(0, 0);
        step(y, 0, 0, 1, 2);
        step(y, 1, 0, 11, 1);
        NeverTwice z = Check.town("net 2;" + Check.times(20, "step 0 1 1;"));
        step(z, 0, 0, 1, 21);
    }

    private static void near() {
        NeverTwice x = Check.town("net 3;" + FOUR);
        int[] due = {0, 1, 1, 3, 3, 4};
        for (int number = 0; number < due.length; number++) {
            Check.due("near by " + number, x.near(0, 0, number), due[number]);
        }
        Check.due("near by 30", x.near(0, 3, 30), 4);
        x.done(0, 1);
        Check.due("spent ones count too", x.near(0, 0, 3), 3);
        Check.illegal("near(0, 0, 31)", () -> x.near(0, 0, 31));
        Check.illegal("near(0, 0, -1)", () -> x.near(0, 0, -1));
        Check.noSuch("near(0, 4, 31)", () -> x.near(0, 4, 31));
        Check.noSuch("near(0, -1, 1)", () -> x.near(0, -1, 1));
        Check.noSuch("near(1, 0, 1)", () -> x.near(1, 0, 1));
    }
}
