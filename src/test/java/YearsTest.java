/** Promises 16 to 19: weights, years, how long it lasts, chances. */
public final class YearsTest {
    /** Ways of costs 1, 2, 4, 8, 16 that are other by 2 each. */
    private static final String FIVE = "part 4;part 1;part 16;part 2;part 8;";

    public static void main(String[] args) {
        weights();
        years();
        hundred();
        lasts();
        lastsLong();
        chances();
        wrong();
        Check.end();
    }

    private static void weights() {
        NeverTwice x = Check.town("set 1;" + FIVE);
        Check.due("weight(0, 0)", x.weight(0, 0), true);
        Check.due("weight(99, 99)", x.weight(99, 99), true);
        Check.due("weight(100, 1)", x.weight(100, 1), false);
        Check.due("weight(-1, 1)", x.weight(-1, 1), false);
        Check.due("weight(0, 100)", x.weight(0, 100), false);
        Check.due("weight(0, -1)", x.weight(0, -1), false);
        Check.due("years(0, 1, 0)", x.years(0, 1, 0), 0);
        Check.due("years(0, 2, 0)", x.years(0, 2, 0), 1);
        for (int what = 3; what <= 6; what++) {
            Check.due("count(" + what + ")", x.count(what), 0);
        }
    }

    private static void years() {
        NeverTwice x = Check.town("set 1 same other 9;" + FIVE);
        Check.due("years(0, 1, 0)", x.years(0, 1, 0), 1);
        Check.due("years(0, 5, 0), though they are all the same", x.years(0, 5, 0), 31);
        Check.due("years(0, 6, 0)", x.years(0, 6, 0), -1);
        Check.due("years(0, 1, 1)", x.years(0, 1, 1), 1);
        Check.due("years(0, 4, 1)", x.years(0, 4, 1), 15);
        Check.due("years(0, 5, 1)", x.years(0, 5, 1), -1);
        x.weight(0, 2);
        x.weight(1, 7);
        x.weight(2, 3);
        Check.due("years(0, 2, 0)", x.years(0, 2, 0), 7 + 4);
        Check.due("years(0, 3, 0)", x.years(0, 3, 0), 7 + 6 + 8);
        Check.due("years(0, 3, 1)", x.years(0, 3, 1), 14 + 12 + 16 - 21);
        Check.due("years(0, 5, 0)", x.years(0, 5, 0), 7 + 6 + 8 + 8 + 16);
        Check.due("years(0, 5, 1)", x.years(0, 5, 1), -1);
        NeverTwice y = Check.town("set 1;" + FIVE);
        y.done(0, 1);
        Check.due("years(0, 2, 0) behind done", y.years(0, 2, 0), 1 + 4);
        Check.due("years(0, 4, 0)", y.years(0, 4, 0), 29);
        Check.due("years(0, 5, 0)", y.years(0, 5, 0), -1);
        Check.due("years(0, 2, 1)", y.years(0, 2, 1), 4 + 8 - 5);
    }

    private static void hundred() {
        NeverTwice x = Check.town("order;" + Check.times(6, "act 999;"));
        for (int year = 0; year < 100; year++) {
            x.weight(year, 99);
        }
        Check.due("years(0, 100, 0)", x.years(0, 100, 0), 100 * 99 * 20979);
        Check.due("years(0, 100, 1)", x.years(0, 100, 1), 0);
        Check.due("chance(0, 1000, 100)", x.chance(0, 1000, 100), 2097900000);
    }

    private static void last(NeverTwice x, int work, int many, int way, int costs) {
        Check.due("lasts", x.lasts(work, 0), many);
        Check.due("which at last", x.lasts(work, 1), way);
        Check.due("all costs", x.lasts(work, 2), costs);
    }

    private static void lasts() {
        NeverTwice x = Check.town("set 1;" + FIVE + "set 1 same other 9;" + FIVE + "order same other 2;act 0;act 0;act 0;"
                + "net 3 same steps;step 0 1 1;step 0 1 2;step 1 2 5 free;step 1 2 9 free;net 2;");
        last(x, 0, 5, 4, 31);
        last(x, 1, 1, 0, 1);
        // marks 0 (spends 1, 4), 3 (spends 1, 7), 6 (spends 4, 7)
        last(x, 2, 3, 4, 0);
        last(x, 3, 2, 1, 6 + 7);
        last(x, 4, 0, -1, 0);
        x.done(0, 1);
        last(x, 0, 4, 4, 29);
        // mark 1 spends 0 and 3; then 4 spends 6, and 7 is left
        x.done(2, 1);
        last(x, 2, 2, 5, 0);
        x.done(1, 3);
        last(x, 1, 0, -1, 0);
        Check.due("nothing is done by that", x.count(2), 3);
    }

    private static void lastsLong() {
        StringBuilder net = new StringBuilder("net8;");
        for (int place = 0; place < 6; place++) {
            for (int i = 0; i < 3; i++) {
                net.append("step").append(place).append(' ').append(place + 1).append(" 1;");
            }
        }
        net.append("step6 7 0;step6 7 9;");
        NeverTwice x = Check.town(net.toString());
        last(x, 0, 1458, 1457, 729 * 6 + 729 * 15);
        x.drawn(100, 1000, 3, 0);
        last(x, 0, 1358, 1457, 629 * 6 + 729 * 15);
    }

    private static void chances() {
        NeverTwice x = Check.town("set 1;" + FIVE + "set 1 same other 9;" + FIVE + "net 2;");
        Check.due("chance of no years", x.chance(0, 1000, 0), 0);
        Check.due("no chance", x.chance(0, 0, 100), 0);
        Check.due("chance(0, 1000, 3)", x.chance(0, 1000, 3), 7000);
        Check.due("chance(0, 1000, 100)", x.chance(0, 1000, 100), 31000);
        Check.due("chance(0, 500, 1)", x.chance(0, 500, 1), 500);
        // wanted once .5, at the second year .25 of them 1, .25 2
        Check.due("chance(0, 500, 2)", x.chance(0, 500, 2), 500 + 250 + 500);
        // shares of 0, 1, 2 at the third year: .25 .5 .25
        Check.due("chance(0, 500, 3)", x.chance(0, 500, 3), 1250 + 125 + 500 + 500);
        Check.due("chance(0, 1, 1)", x.chance(0, 1, 1), 1);
        Check.due("chance(0, 1, 2)", x.chance(0, 1, 2), 2);
        // only the first of them lasts
        Check.due("chance(1, 1000, 9)", x.chance(1, 1000, 9), 1000);
        Check.due("chance(1, 500, 2)", x.chance(1, 500, 2), 750);
        Check.due("chance(2, 1000, 9)", x.chance(2, 1000, 9), 0);
        x.done(0, 0);
        Check.due("chance(0, 1000, 2) behind done", x.chance(0, 1000, 2), 6000);
        cutDown();
        cutDownOnce();
    }

    /** The sums just below and at a whole thousandth. */
    private static void cutDownOnce() {
        int edges = 0;
        for (int cost = 1; cost <= 999; cost += 38) {
            String text = "set 1 same other 9;part " + cost + ";part 999;";
            NeverTwice x = Check.town(text);
            int made = 0;
            for (int chance = 1; chance < 1000; chance++) {
                if (made > 300) {
                    x = Check.town(text);
                    made = 0;
                }
                long stays = 1000000000;
                long all = 0;
                for (int year = 1; year <= 100; year++) {
                    long goes = stays * chance / 1000;
                    stays -= goes;
                    all += goes * cost;
                    if (all % 1000000 == 999999 || year > 1 && all % 1000000 == 0 && all % 3 == 0) {
                        edges++;
                        made++;
                        Check.due("chance(0, " + chance + ", " + year + ")", x.chance(0, chance, year), all / 1000000);
                    }
                }
            }
        }
        Check.due("there are such sums", edges > 0, true);
    }

    /** Shares are cut down at each going over: 333 of 1000 nine times of a billion leaves a rest. */
    private static void cutDown() {
        NeverTwice x = Check.town("order;act 999;");
        long stays = 1000000000;
        long over = 0;
        for (int year = 0; year < 40; year++) {
            long goes = stays * 333 / 1000;
            stays -= goes;
            over += goes;
        }
        Check.due("chance(0, 333, 40)", x.chance(0, 333, 40), over * 999 / 1000000);
    }

    private static void wrong() {
        NeverTwice x = Check.town("set 1;" + FIVE);
        Check.illegal("years(0, 0, 0)", () -> x.years(0, 0, 0));
        Check.illegal("years(0, 101, 1)", () -> x.years(0, 101, 1));
        Check.noSuch("years(0, 0, 2)", () -> x.years(0, 0, 2));
        Check.noSuch("years(0, 1, -1)", () -> x.years(0, 1, -1));
        Check.noSuch("years(1, 0, 0)", () -> x.years(1, 0, 0));
        Check.noSuch("lasts(1, 0)", () -> x.lasts(1, 0));
        Check.noSuch("lasts(0, 3)", () -> x.lasts(0, 3));
        Check.noSuch("lasts(0, -1)", () -> x.lasts(0, -1));
        Check.illegal("chance(0, 1001, 1)", () -> x.chance(0, 1001, 1));
        Check.illegal("chance(0, -1, 1)", () -> x.chance(0, -1, 1));
        Check.illegal("chance(0, 1, 101)", () -> x.chance(0, 1, 101));
        Check.illegal("chance(0, 1, -1)", () -> x.chance(0, 1, -1));
        Check.noSuch("chance(1, 1001, 1)", () -> x.chance(1, 1001, 1));
        Check.due("years(0, 100, 0)", x.years(0, 100, 0), -1);
    }
}
