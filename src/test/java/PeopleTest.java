/** Promises 21 and 22: people and who gets one. */
public final class PeopleTest {
    private static final String FIVE = "part 4;part 1;part 16;part 2;part 8;";

    public static void main(String[] args) {
        people();
        given();
        byRest();
        dear();
        wrong();
        Check.end();
    }

    private static void settled(NeverTwice x, int work, int gain, int many, int least, int greatest) {
        Check.due("how much", x.given(work, 0), gain);
        Check.due("how many", x.given(work, 1), many);
        Check.due("the least price", x.given(work, 2), least);
        Check.due("the greatest price", x.given(work, 3), greatest);
    }

    private static void people() {
        NeverTwice x = Check.town("order;order;");
        Check.due("person(0, 10000)", x.person(0, 10000), -1);
        Check.due("person(0, -1)", x.person(0, -1), -1);
        Check.due("people refused", x.count(6), 2);
        for (int i = 1; i <= 12; i++) {
            Check.due("person " + i, x.person(0, i == 1 ? 9999 : 0), i);
        }
        Check.due("person 13", x.person(0, 1), -1);
        Check.due("person of another", x.person(1, 1), 1);
        Check.due("people refused", x.count(6), 3);
        Check.due("people", x.work(0, 9), 12);
    }

    private static void given() {
        NeverTwice x = Check.town("set 1;" + FIVE + "net 2;");
        settled(x, 0, 0, 0, 0, 1);
        settled(x, 1, 0, 0, 0, 9999);
        x.person(1, 70);
        x.person(1, 90);
        settled(x, 1, 0, 0, 90, 9999);
        x.person(0, 3);
        settled(x, 0, 2, 1, 1, 2);
        x.person(0, 12);
        // 12 - 1, 3 - 2
        settled(x, 0, 12, 2, 2, 3);
        x.person(0, 4);
        // 12 - 1, 4 - 2, 3 - 4
        settled(x, 0, 13, 2, 3, 4);
        x.person(0, 4);
        // the third of 4 for a cost of 4 brings nothing: the fewest
        settled(x, 0, 13, 2, 4, 4);
    }

    private static void byRest() {
        NeverTwice x = Check.town("set 1 same other 9;" + FIVE);
        for (int i = 0; i < 7; i++) {
            x.person(0, 100 - i);
        }
        // all five are taken, though they are the same; two people get none
        settled(x, 0, 100 + 99 + 98 + 97 + 96 - 31, 5, 95, 96);
        x.done(0, 4);
        settled(x, 0, 0, 0, 100, 9999);
        NeverTwice y = Check.town("set 1;" + FIVE);
        y.person(0, 9);
        y.done(0, 0);
        settled(y, 0, 7, 1, 2, 4);
        y.person(0, 0);
        settled(y, 0, 7, 1, 2, 4);
        NeverTwice v = Check.town("set 1;" + FIVE);
        v.done(0, 1);
        v.person(0, 3);
        settled(v, 0, 2, 1, 1, 3);
        NeverTwice z = Check.town("set 1;part 3;");
        z.person(0, 5);
        settled(z, 0, 2, 1, 3, 5);
        NeverTwice w = Check.town("set 1;part 3;");
        w.person(0, 3);
        settled(w, 0, 0, 0, 3, 3);
    }

    /** A cost may be above all that can be given. */
    private static void dear() {
        NeverTwice x = Check.town("order;" + Check.times(6, "act 999;"));
        settled(x, 0, 0, 0, 0, 20979);
        x.person(0, 9999);
        settled(x, 0, 0, 0, 9999, 20979);
    }

    private static void wrong() {
        NeverTwice x = Check.town("order;");
        Check.noSuch("person(1, 10000)", () -> x.person(1, 10000));
        Check.noSuch("person(-1, 1)", () -> x.person(-1, 1));
        Check.due("which is no refusal", x.count(6), 0);
        Check.noSuch("given(1, 0)", () -> x.given(1, 0));
        Check.noSuch("given(0, 4)", () -> x.given(0, 4));
        Check.noSuch("given(0, -1)", () -> x.given(0, -1));
    }
}
