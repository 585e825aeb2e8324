import java.util.Arrays;

/** The boundary cases of promises 16 to 19, 26, 27 and 28: weights, years, how long it lasts, chances, draws, the image. */
public final class EdgesOfYearsTest {
    private static final String FIVE = "part 4;part 1;part 16;part 2;part 8;";
    private static final String MANY = "set6;" + Edge.times(12, "part1;");
    private static final String ORDER = "order;" + Edge.times(5, "act 1;");
    private static final int[] BEYOND = {-1, Integer.MIN_VALUE, Integer.MAX_VALUE};

    public static void main(String[] args) {
        weights();
        years();
        yearsLeft();
        yearsByWeights();
        kept();
        lasts();
        chanceNumbers();
        chanceCutDown();
        drawnNumbers();
        drawnChance();
        drawnFails();
        drawnInTurn();
        image();
        imageOfAll();
        restore();
        Check.end();
    }

    private static void weights() {
        Edge.edge(16, "years are 0 to 99; -1 and 100 are refused, and all else stays", x -> {
            Edge.town(x, "set 1;" + FIVE + ORDER);
            Edge.is(x.weight(0, 2), true);
            Edge.is(x.weight(99, 3), true);
            Edge.is(x.years(1, 99, 0), 15 * 100);
            Edge.is(x.years(1, 100, 0), 15 * 103);
            Edge.stays(x, () -> {
                Edge.is(x.weight(100, 7), false);
                for (int year : BEYOND) {
                    Edge.is(x.weight(year, 7), false);
                }
            });
            Edge.is(x.years(1, 100, 0), 15 * 103);
        });
        Edge.edge(16, "weights are 0 to 99; -1 and 100 are refused, and all else stays", x -> {
            Edge.town(x, "set 1;" + FIVE);
            Edge.is(x.weight(0, 0), true);
            Edge.is(x.years(0, 1, 0), 0);
            Edge.is(x.weight(0, 99), true);
            Edge.is(x.years(0, 1, 0), 99);
            Edge.stays(x, () -> {
                Edge.is(x.weight(0, 100), false);
                for (int weight : BEYOND) {
                    Edge.is(x.weight(0, weight), false);
                }
                Edge.is(x.weight(-1, -1), false);
                Edge.is(x.weight(100, 100), false);
            });
            Edge.is(x.years(0, 1, 0), 99);
        });
        Edge.edge(16, "a refusal is none of STATUS", x -> {
            Edge.is(x.weight(100, 1), false);
            Edge.is(x.weight(1, 100), false);
            for (int what = 3; what <= 6; what++) {
                Edge.is(x.count(what), 0);
            }
        });
        Edge.edge(16, "each of the hundred weights is 1 at first, and each is its own", x -> {
            Edge.town(x, ORDER);
            for (int years = 1; years <= 100; years++) {
                Edge.is(x.years(0, years, 0), 15 * years);
            }
            int sum = 0;
            for (int year = 0; year < 100; year++) {
                Edge.is(x.weight(year, year), true);
                sum += year;
                Edge.is(x.years(0, year + 1, 0), 15 * sum);
            }
        });
    }

    private static void years() {
        Edge.edge(17, "years are 1 to 100; 0 and 101 throw, of YEARS and of KEPT", x -> {
            Edge.town(x, ORDER);
            Edge.is(x.years(0, 1, 0), 15);
            Edge.is(x.years(0, 100, 0), 1500);
            Edge.is(x.years(0, 1, 1), 0);
            Edge.is(x.years(0, 100, 1), 0);
            Edge.stays(x, () -> {
                for (int what = 0; what <= 1; what++) {
                    int asked = what;
                    Edge.illegal(() -> x.years(0, 0, asked));
                    Edge.illegal(() -> x.years(0, 101, asked));
                    for (int years : BEYOND) {
                        Edge.illegal(() -> x.years(0, years, asked));
                    }
                }
            });
        });
        Edge.edge(17, "what is 0 or 1; -1 and 2 are none, ahead of wrong years", x -> {
            Edge.town(x, ORDER);
            Edge.stays(x, () -> {
                Edge.noSuch(() -> x.years(0, 1, 2));
                Edge.noSuch(() -> x.years(0, 0, 2));
                Edge.noSuch(() -> x.years(0, 101, 2));
                for (int what : BEYOND) {
                    Edge.noSuch(() -> x.years(0, 1, what));
                    Edge.noSuch(() -> x.years(0, 0, what));
                }
            });
        });
        Edge.edge(17, "no such work, ahead of wrong years", x -> {
            Edge.town(x, ORDER);
            Edge.noSuch(() -> x.years(1, 1, 0));
            Edge.noSuch(() -> x.years(1, 0, 0));
            Edge.noSuch(() -> x.years(-1, 101, 1));
        });
        Edge.edge(17, "wrong years throw though none are left", x -> {
            Edge.town(x, "net 2;");
            Edge.is(x.years(0, 1, 0), -1);
            Edge.is(x.years(0, 100, 1), -1);
            Edge.illegal(() -> x.years(0, 0, 0));
            Edge.illegal(() -> x.years(0, 101, 0));
        });
    }

    private static void yearsLeft() {
        Edge.edge(17, "as many years as are left, of KEPT one fewer; NONE of one more", x -> {
            Edge.town(x, "set 1;" + FIVE);
            int[] sums = {1, 3, 7, 15, 31};
            int[] kept = {1, 3, 7, 15};
            for (int years = 1; years <= 7; years++) {
                Edge.is(x.years(0, years, 0), years <= 5 ? sums[years - 1] : -1);
                Edge.is(x.years(0, years, 1), years <= 4 ? kept[years - 1] : -1);
            }
            x.done(0, 0);
            Edge.is(x.years(0, 4, 0), 30);
            Edge.is(x.years(0, 5, 0), -1);
            Edge.is(x.years(0, 3, 1), 4 + 8 + 16 - 14);
            Edge.is(x.years(0, 4, 1), -1);
        });
        Edge.edge(17, "of one left: one year, nothing kept; of none left nothing", x -> {
            Edge.town(x, "order;act 7;");
            Edge.is(x.years(0, 1, 0), 7);
            Edge.is(x.years(0, 2, 0), -1);
            Edge.is(x.years(0, 1, 1), -1);
            x.done(0, 0);
            Edge.is(x.years(0, 1, 0), -1);
            Edge.is(x.years(0, 1, 1), -1);
        });
        Edge.edge(17, "a hundred years of a hundred and of a hundred and one that are left", x -> {
            // 120 orders, of which all but 101 and then one more are done
            Edge.town(x, ORDER);
            for (int way = 0; way < 19; way++) {
                x.done(0, way);
            }
            Edge.is(x.work(0, 5), 101);
            Edge.is(x.years(0, 100, 0), 1500);
            Edge.is(x.years(0, 100, 1), 0);
            x.done(0, 50);
            Edge.is(x.years(0, 100, 0), 1500);
            Edge.is(x.years(0, 100, 1), -1);
            Edge.is(x.years(0, 99, 1), 0);
            x.done(0, 51);
            Edge.is(x.years(0, 100, 0), -1);
            Edge.is(x.years(0, 99, 0), 15 * 99);
        });
        Edge.edge(17, "what would be spent by one another isn't here; what is spent now is", x -> {
            Edge.town(x, "set 1 same other 9;" + FIVE);
            Edge.is(x.years(0, 5, 0), 31);
            Edge.is(x.years(0, 4, 1), 15);
            x.done(0, 3);
            Edge.is(x.years(0, 1, 0), -1);
        });
    }

    private static void yearsByWeights() {
        Edge.edge(17, "only the weights of years from 0 on to one below how many", x -> {
            Edge.town(x, "set 1;" + FIVE);
            x.weight(2, 50);
            Edge.is(x.years(0, 2, 0), 1 + 2);
            Edge.is(x.years(0, 3, 0), 50 + 2 + 4);
            x.weight(2, 1);
            x.weight(5, 99);
            Edge.is(x.years(0, 5, 0), 31);
        });
        Edge.edge(17, "years of weight 0 need a way too, of no cost", x -> {
            Edge.town(x, "set 1;" + FIVE);
            x.weight(0, 0);
            x.weight(1, 0);
            Edge.is(x.years(0, 1, 0), 0);
            Edge.is(x.years(0, 2, 0), 0);
            Edge.is(x.years(0, 3, 0), 1);
            Edge.is(x.years(0, 5, 0), 1 + 2 + 4);
            Edge.is(x.years(0, 6, 0), -1);
            Edge.is(x.years(0, 1, 1), 0);
            Edge.is(x.years(0, 3, 1), 1);
        });
        Edge.edge(17, "the greatest weight has the cheapest way, wherever it stands", x -> {
            for (int year = 0; year < 3; year++) {
                Counted y = Edge.fresh("set 1;" + FIVE);
                y.weight(year, 99);
                y.weight((year + 1) % 3, 98);
                y.weight((year + 2) % 3, 0);
                Edge.is(y.years(0, 3, 0), 99 + 2 * 98);
                Edge.is(y.years(0, 3, 1), 2 * 99 + 4 * 98 - 99 - 2 * 98);
            }
        });
        Edge.edge(17, "the most that can be: a hundred years of weight 99 and the greatest cost", x -> {
            Edge.town(x, "order;" + Edge.times(6, "act 999;"));
            for (int year = 0; year < 100; year++) {
                x.weight(year, 99);
            }
            Edge.is(x.years(0, 100, 0), 207692100);
            Edge.is(x.years(0, 100, 1), 0);
        });
    }

    private static void kept() {
        Edge.edge(17, "KEPT is of the cheapest one alone, whatever is the same as it", x -> {
            Edge.town(x, "set 1 same other 9;" + FIVE);
            Edge.is(x.years(0, 1, 1), 2 - 1);
            Edge.is(x.years(0, 4, 1), 30 - 15);
        });
        Edge.edge(17, "KEPT is of the cheapest one that is left, nothing is spent by asking", x -> {
            Edge.town(x, "set 1;" + FIVE);
            x.done(0, 0);
            Edge.is(x.years(0, 1, 1), 4 - 2);
            Edge.is(x.years(0, 1, 1), 4 - 2);
            Edge.is(x.work(0, 5), 4);
        });
        Edge.edge(17, "KEPT is 0 if another costs the same", x -> {
            Edge.town(x, "set 1;part 3;part 3;part 9;");
            Edge.is(x.years(0, 1, 1), 0);
            Edge.is(x.years(0, 2, 1), 6);
        });
    }

    private static void lasts(Counted x, int work, int many, int way, int costs) {
        Edge.is(x.lasts(work, 0), many);
        Edge.is(x.lasts(work, 1), way);
        Edge.is(x.lasts(work, 2), costs);
    }

    private static void lasts() {
        Edge.edge(18, "what is 0 to 2; -1 and 3 are none; no such work", x -> {
            Edge.town(x, "set 1;" + FIVE);
            lasts(x, 0, 5, 4, 31);
            Edge.stays(x, () -> {
                Edge.noSuch(() -> x.lasts(0, 3));
                for (int what : BEYOND) {
                    Edge.noSuch(() -> x.lasts(0, what));
                    Edge.noSuch(() -> x.lasts(what, 0));
                }
                Edge.noSuch(() -> x.lasts(1, 0));
            });
        });
        Edge.edge(18, "of none left: no years, NONE, no costs", x -> {
            Edge.town(x, "net 2;order;act 7;");
            lasts(x, 0, 0, -1, 0);
            lasts(x, 1, 1, 0, 7);
            x.done(1, 0);
            lasts(x, 1, 0, -1, 0);
        });
        Edge.edge(18, "one that is other by just its NUMBER is there still, by one fewer not", x -> {
            // marks 0 1 3 4 6 7
            Edge.town(x, "order same other 1;act 0;act 0;act 0;order same other 2;act 0;act 0;act 0;"
                    + "order same other 3;act 0;act 0;act 0;order same other 4;act 0;act 0;act 0;");
            lasts(x, 0, 6, 5, 0);
            lasts(x, 1, 3, 4, 0);
            lasts(x, 2, 2, 5, 0);
            lasts(x, 3, 1, 0, 0);
        });
        Edge.edge(18, "by what is left now, with what was spent before", x -> {
            Edge.town(x, "order same other 3;act 0;act 0;act 0;");
            x.done(0, 2);
            lasts(x, 0, 1, 3, 0);
            x.done(0, 3);
            lasts(x, 0, 0, -1, 0);
        });
        Edge.edge(18, "it lasts longer than there is room in the book, and nothing is done by asking", x -> {
            Edge.town(x, Edge.times(4, MANY));
            Edge.is(x.drawn(100, 1000, 1, 1), 400);
            Edge.stays(x, () -> lasts(x, 0, 824, 923, 824 * 6));
        });
    }

    /** In thousandths, of the costs of LASTS, in the document's own words. */
    private static long expected(int[] costs, int chance, int years) {
        long[] shares = new long[years + 2];
        shares[0] = 1000000000;
        long all = 0;
        for (int year = 0; year < years; year++) {
            long[] next = shares.clone();
            for (int wanted = 0; wanted < costs.length && wanted <= years; wanted++) {
                long over = shares[wanted] * chance / 1000;
                next[wanted] -= over;
                next[wanted + 1] += over;
                all += over * costs[wanted];
            }
            shares = next;
        }
        return all / 1000000;
    }

    private static void chanceNumbers() {
        Edge.edge(19, "a chance is 0 to 1000; -1 and 1001 throw", x -> {
            Edge.town(x, "set 1;" + FIVE);
            Edge.is(x.chance(0, 0, 9), 0);
            Edge.is(x.chance(0, 1, 1), 1);
            Edge.is(x.chance(0, 999, 1), 999);
            Edge.is(x.chance(0, 1000, 1), 1000);
            Edge.stays(x, () -> {
                Edge.illegal(() -> x.chance(0, 1001, 1));
                for (int chance : BEYOND) {
                    Edge.illegal(() -> x.chance(0, chance, 1));
                }
            });
        });
        Edge.edge(19, "years are 0 to 100; -1 and 101 throw", x -> {
            Edge.town(x, ORDER);
            Edge.is(x.chance(0, 1000, 0), 0);
            Edge.is(x.chance(0, 1000, 1), 15000);
            Edge.is(x.chance(0, 1000, 99), 1485000);
            Edge.is(x.chance(0, 1000, 100), 1500000);
            Edge.stays(x, () -> {
                Edge.illegal(() -> x.chance(0, 1, 101));
                for (int years : BEYOND) {
                    Edge.illegal(() -> x.chance(0, 1, years));
                }
                Edge.illegal(() -> x.chance(0, -1, -1));
            });
        });
        Edge.edge(19, "no such work, ahead of wrong numbers", x -> {
            Edge.town(x, ORDER);
            Edge.noSuch(() -> x.chance(1, 0, 0));
            Edge.noSuch(() -> x.chance(1, 1001, 101));
            Edge.noSuch(() -> x.chance(-1, -1, -1));
        });
        Edge.edge(19, "wrong numbers throw though none are left", x -> {
            Edge.town(x, "net 2;");
            Edge.is(x.chance(0, 1000, 100), 0);
            Edge.illegal(() -> x.chance(0, 1001, 100));
            Edge.illegal(() -> x.chance(0, 1000, 101));
        });
        Edge.edge(19, "wanted as often as it lasts, no more: then nothing, and it stays", x -> {
            Edge.town(x, "set 1;" + FIVE + "set 1 same other 9;" + FIVE);
            int[] sums = {0, 1, 3, 7, 15, 31, 31, 31};
            for (int years = 0; years < 8; years++) {
                Edge.is(x.chance(0, 1000, years), 1000 * sums[years]);
                Edge.is(x.chance(1, 1000, years), years == 0 ? 0 : 1000);
            }
            Edge.is(x.chance(0, 1000, 100), 31000);
            Edge.is(x.chance(1, 500, 100), expected(new int[] {1}, 500, 100));
            x.done(0, 0);
            Edge.is(x.chance(0, 1000, 100), 30000);
        });
        Edge.edge(19, "the most that can be", x -> {
            Edge.town(x, "order;" + Edge.times(6, "act 999;"));
            Edge.is(x.chance(0, 1000, 100), 2097900000);
            Edge.is(x.chance(0, 999, 100) < 2097900000, true);
        });
    }

    private static void chanceCutDown() {
        Edge.edge(19, "within a year none is wanted twice: what went over goes on in the next year", x -> {
            Edge.town(x, "set 1;part 1;part 100;");
            Edge.is(x.chance(0, 500, 1), 500);
            Edge.is(x.chance(0, 500, 2), 750 + 25000);
        });
        Edge.edge(19, "what goes over is cut down to whole billionths, what is left stays", x -> {
            // of a billion by 1 of 1000: a million, 1000, 1, and then nothing of what is less than 1000
            Edge.town(x, "set 1;part 0;part 0;part 0;part 999;");
            Edge.is(x.chance(0, 1, 4), 0);
            int[] costs = {0, 0, 0, 999};
            for (int chance : new int[] {1, 2, 3, 7, 333, 500, 997, 999, 1000}) {
                for (int years = 0; years <= 100; years += 4) {
                    Edge.is(x.chance(0, chance, years), expected(costs, chance, years));
                }
            }
        });
        Edge.edge(19, "all together is cut down once", x -> {
            int[] costs = {7, 11, 13, 17};
            Edge.town(x, "set 1;part 7;part 11;part 13;part 17;");
            for (int chance = 1; chance < 1000; chance += 37) {
                for (int years = 1; years <= 12; years++) {
                    Edge.is(x.chance(0, chance, years), expected(costs, chance, years));
                }
            }
        });
        Edge.edge(19, "by the costs of LASTS, not of all that are left", x -> {
            // marks 0 1 3 4 6 7 of costs 10 .. : by OTHER 2 the first spends the second
            Edge.town(x, "order same other 2;act 1;act 2;act 4;");
            int many = x.lasts(0, 0);
            int[] costs = new int[many];
            Counted y = Edge.fresh("order same other 2;act 1;act 2;act 4;");
            for (int i = 0; i < many; i++) {
                costs[i] = y.way(0, y.left(0, 0), 0);
                y.done(0, y.left(0, 0));
            }
            Edge.is(many < 6, true);
            for (int years = 0; years <= 9; years++) {
                Edge.is(x.chance(0, 700, years), expected(costs, 700, years));
            }
        });
        Edge.edge(19, "a hundred years of a work that lasts longer, and of one that lasts just so long", x -> {
            Edge.town(x, ORDER);
            int[] costs = new int[120];
            Arrays.fill(costs, 15);
            Edge.is(x.chance(0, 999, 100), expected(costs, 999, 100));
            for (int way = 0; way < 20; way++) {
                x.done(0, way);
            }
            Edge.is(x.lasts(0, 0), 100);
            Edge.is(x.chance(0, 1000, 100), 1500000);
            x.done(0, 20);
            Edge.is(x.chance(0, 1000, 100), 99 * 15000);
        });
    }

    private static int draw(long state) {
        return (int) (state % (1L << 32) / 65536 % 32768 % 1000);
    }

    private static long next(long state) {
        return (state % (1L << 32) * 1103515245L + 12345) % (1L << 32);
    }

    private static long first(int seed) {
        return next(seed & 0xffffffffL);
    }

    private static void drawnNumbers() {
        Edge.edge(26, "years are 1 to 100; 0 and 101 throw, and nothing is drawn", x -> {
            Edge.town(x, "order;act 1;act 2;" + MANY);
            Edge.is(x.drawn(1, 1000, 1, 1), 2);
            Edge.stays(x, () -> {
                Edge.illegal(() -> x.drawn(0, 1000, 1, 0));
                Edge.illegal(() -> x.drawn(101, 1000, 1, 0));
                for (int years : BEYOND) {
                    Edge.illegal(() -> x.drawn(years, 1000, 1, 0));
                }
            });
            Edge.is(x.drawn(100, 1000, 1, 1), 101);
        });
        Edge.edge(26, "a chance is 0 to 1000; -1 and 1001 throw, and nothing is drawn", x -> {
            Edge.town(x, "order;act 1;act 2;");
            Edge.stays(x, () -> {
                Edge.illegal(() -> x.drawn(1, 1001, 1, 0));
                for (int chance : BEYOND) {
                    Edge.illegal(() -> x.drawn(1, chance, 1, 0));
                }
            });
            Edge.is(x.drawn(100, 0, 1, 1), 0);
            Edge.is(x.drawn(1, 1000, 1, 1), 1);
        });
        Edge.edge(26, "what is 0 to 2; -1 and 3 are none, ahead of wrong numbers, and nothing is drawn", x -> {
            Edge.town(x, "order;act 1;act 2;order;");
            Edge.stays(x, () -> {
                Edge.noSuch(() -> x.drawn(1, 1000, 1, 3));
                Edge.noSuch(() -> x.drawn(0, 1000, 1, 3));
                Edge.noSuch(() -> x.drawn(1, 1001, 1, 3));
                for (int what : BEYOND) {
                    Edge.noSuch(() -> x.drawn(1, 1000, 1, what));
                    Edge.noSuch(() -> x.drawn(101, -1, 1, what));
                }
                Edge.illegal(() -> x.drawn(0, 1001, 1, 2));
            });
        });
        Edge.edge(26, "of no works nothing is drawn, wrong numbers throw", x -> {
            Edge.is(x.drawn(100, 1000, 1, 0), 0);
            Edge.is(x.drawn(100, 1000, 1, 2), 0);
            Edge.illegal(() -> x.drawn(101, 1000, 1, 0));
            Edge.illegal(() -> x.drawn(1, 1001, 1, 0));
            Edge.noSuch(() -> x.drawn(1, 1, 1, 3));
        });
    }

    private static void drawnChance() {
        Edge.edge(26, "a draw below the chance does it, one of just the chance doesn't, by any seed", x -> {
            int[] seeds = {0, 1, -1, 2, 12345, -12345, 65535, 65536, 99991, 1 << 30, 1 << 31, Integer.MAX_VALUE, 77777777};
            for (int seed : seeds) {
                int draw = draw(first(seed));
                Counted y = Edge.fresh("order;act 1;act 2;");
                Edge.is(y.drawn(1, draw, seed, 1), 0);
                Edge.is(y.count(2), 0);
                Edge.is(y.drawn(1, draw + 1, seed, 1), 1);
                Edge.is(y.count(2), 1);
            }
        });
        Edge.edge(26, "draws of 0 and of 999: of a chance of 0 never, of 1000 ever", x -> {
            int zero = 0;
            int most = 0;
            for (int seed = 0; seed < 100000 && (zero < 5 || most < 5); seed += 7) {
                int draw = draw(first(seed));
                if (draw == 0 && zero < 5) {
                    zero++;
                    Counted y = Edge.fresh("order;");
                    Edge.is(y.drawn(1, 0, seed, 1), 0);
                    Edge.is(y.drawn(1, 1, seed, 1), 1);
                }
                if (draw == 999 && most < 5) {
                    most++;
                    Counted y = Edge.fresh("order;");
                    Edge.is(y.drawn(1, 999, seed, 1), 0);
                    Edge.is(y.drawn(1, 1000, seed, 1), 1);
                }
            }
            Edge.is(zero + most, 10);
        });
        Edge.edge(26, "bits 16 to 30 of the seed, not bit 15, not bit 31, be it below 0", x -> {
            int[] seen = new int[4];
            for (int seed = -40; seed < 40; seed++) {
                long state = first(seed);
                int draw = draw(state);
                seen[(int) (state >> 30 & 3)]++;
                Counted y = Edge.fresh("order;");
                Edge.is(y.drawn(1, draw, seed, 1), 0);
                Edge.is(y.drawn(1, draw + 1, seed, 1), 1);
            }
            for (int i = 0; i < 4; i++) {
                Edge.is(seen[i] > 0, true);
            }
        });
    }

    private static void drawnFails() {
        Edge.edge(26, "it fails if none is left, which is no refusal, and costs nothing", x -> {
            Edge.town(x, "order;act 7;net 2;");
            Edge.is(x.drawn(1, 1000, 1, 2), 1);
            Edge.is(x.drawn(1, 1000, 1, 2), 2);
            Edge.is(x.drawn(1, 1000, 1, 0), 0);
            Edge.is(x.drawn(1, 0, 1, 2), 0);
            for (int what = 3; what <= 6; what++) {
                Edge.is(x.count(what), 0);
            }
            Edge.is(x.count(2), 1);
        });
        Edge.edge(26, "the 400th of the book is done, the next one fails though it is left", x -> {
            Edge.town(x, Edge.times(6, MANY));
            Edge.is(x.drawn(66, 1000, 1, 1), 396);
            Edge.is(x.drawn(1, 1000, 1, 1), 4);
            Edge.is(x.count(2), 400);
            Edge.is(x.work(3, 6), 67);
            Edge.is(x.work(4, 6), 66);
            Edge.is(x.drawn(1, 1000, 1, 2), 6);
            Edge.is(x.drawn(1, 1000, 1, 0), 0);
            Edge.is(x.work(4, 5), 924 - 66);
            Edge.is(x.count(4), 0);
        });
        Edge.edge(26, "some done and some failing in one year: both are counted, and all costs of those done", x -> {
            Edge.town(x, Edge.times(6, MANY));
            x.drawn(66, 1000, 1, 0);
            x.image();
            Edge.is(x.drawn(1, 1000, 1, 0), 24);
            x.restore();
            Edge.is(x.drawn(1, 1000, 1, 1), 4);
            x.restore();
            Edge.is(x.drawn(1, 1000, 1, 2), 2);
            x.restore();
            Edge.is(x.drawn(100, 1000, 1, 2), 596);
        });
        Edge.edge(26, "all costs of the most that can be done in one call", x -> {
            Edge.town(x, Edge.times(6, "order;" + Edge.times(6, "act 999;")));
            x.image();
            Edge.is(x.drawn(100, 1000, 1, 0), 400 * 20979);
            x.restore();
            Edge.is(x.drawn(100, 1000, 1, 1), 400);
            x.restore();
            Edge.is(x.drawn(100, 1000, 1, 2), 200);
        });
        Edge.edge(26, "all that are the same as what was drawn are spent", x -> {
            Edge.town(x, "set 1 same other 9;part 1;part 2;set 1 same steps;part 1 free;part 2 free;part 3;");
            Edge.is(x.drawn(1, 1000, 1, 0), 2);
            Edge.is(x.work(0, 5), 0);
            Edge.is(x.work(1, 5), 1);
            Edge.is(x.drawn(1, 1000, 1, 0), 3);
            Edge.is(x.drawn(1, 1000, 1, 2), 2);
        });
    }

    private static void drawnInTurn() {
        Edge.edge(26, "in each year each work, from 0 on, has a draw of its own, be it that it fails or has no ways", x -> {
            for (int seed = -30; seed < 30; seed++) {
                Counted y = Edge.fresh("net 2;set 1;" + FIVE + "order;act 7;set 1;part 3;part 9;");
                int[] costs = {0, 1, 7, 3};
                int[] second = {0, 2, 0, 9};
                int[] room = {0, 5, 1, 2};
                int[] taken = new int[4];
                long state = seed & 0xffffffffL;
                int all = 0;
                for (int turn = 0; turn < 8; turn++) {
                    state = next(state);
                    int work = turn % 4;
                    if (draw(state) < 500 && taken[work] < room[work]) {
                        all += taken[work] == 0 ? costs[work] : second[work];
                        taken[work]++;
                    }
                }
                Edge.is(y.drawn(2, 500, seed, 0), all);
                for (int work = 0; work < 4; work++) {
                    Edge.is(y.work(work, 6), taken[work]);
                }
            }
        });
        Edge.edge(26, "the seed is of one call alone", x -> {
            Edge.town(x, MANY);
            int done = x.drawn(20, 300, 99, 1);
            Edge.is(x.drawn(20, 300, 99, 1), done);
            Counted y = Edge.fresh(MANY);
            Edge.is(y.drawn(20, 300, 99, 1), done);
        });
        Edge.edge(26, "the book has them in their turn", x -> {
            Edge.town(x, "set 1;part 3;part 2;order;act 1;act 2;");
            x.drawn(2, 1000, 1, 0);
            int[] works = {0, 1, 0, 1};
            int[] ways = {0, 0, 1, 1};
            for (int i = 0; i < 4; i++) {
                Edge.is(x.book(i, 0), works[i]);
                Edge.is(x.book(i, 1), ways[i]);
            }
            Edge.noSuch(() -> x.book(4, 0));
        });
    }

    private static void image() {
        Edge.edge(27, "an image of a new object, of no works", x -> {
            x.image();
            Edge.feed(x, Edge.padded("x", 20));
            x.town(20);
            Edge.is(x.count(3), 1);
            Edge.is(x.restore(), true);
            Edge.is(x.count(3), 0);
        });
        Edge.edge(27, "it changes nothing that is seen", x -> {
            Edge.town(x, "set 1;part 1;part 2;order;act 1;act 2;");
            x.done(0, 0);
            x.done(0, 0);
            x.tell(1, 1);
            x.person(0, 5);
            Edge.stays(x, x::image);
        });
        Edge.edge(27, "one that is kept is in place of another one", x -> {
            Edge.town(x, "set 1;part 1;part 2;part 3;");
            x.image();
            x.done(0, 0);
            x.image();
            x.done(0, 1);
            Edge.is(x.restore(), true);
            Edge.is(x.count(2), 1);
            Edge.is(x.restore(), true);
            Edge.is(x.count(2), 1);
        });
        Edge.edge(27, "it is gone with a town, not with a fault or what throws", x -> {
            Edge.town(x, "order;");
            x.image();
            Edge.illegal(() -> x.town(1));
            Edge.is(x.restore(), true);
            Edge.feed(x, Edge.padded("x", 20));
            Edge.is(x.town(20), 1);
            Edge.is(x.restore(), true);
            Edge.town(x, "order;");
            Edge.is(x.restore(), false);
            x.image();
            Edge.is(x.restore(), true);
        });
    }

    private static void imageOfAll() {
        Edge.edge(27, "it keeps a full book, 100 marks, 12 people, the weights of years 0 and 99, all of STATUS", x -> {
            Edge.town(x, Edge.times(4, MANY) + ORDER);
            for (int i = 0; i < 101; i++) {
                x.tell(3, i == 99 ? 63 : 3000);
            }
            for (int i = 0; i < 13; i++) {
                x.person(3, 100);
            }
            x.weight(0, 7);
            x.weight(99, 9);
            Edge.is(x.drawn(80, 1000, 1, 1), 400);
            x.done(0, 900);
            Edge.feed(x, Edge.padded("x", 20));
            x.town(1);
            x.image();
            x.weight(0, 8);
            x.weight(99, 8);
            x.weight(50, 8);
            x.done(0, 900);
            x.tell(3, 1);
            x.tell(4, 1);
            x.person(3, 100);
            x.person(4, 100);
            Edge.feed(x, Edge.padded("x", 20));
            x.town(1);
            Edge.is(x.restore(), true);
            Edge.is(x.count(2), 400);
            for (int what = 3; what <= 6; what++) {
                Edge.is(x.count(what), 1);
            }
            int[] marks = {0, 0, 0, 100, 0};
            for (int work = 0; work < 5; work++) {
                Edge.is(x.work(work, 8), marks[work]);
                Edge.is(x.work(work, 9), work == 3 ? 12 : 0);
            }
            Edge.is(x.years(3, 100, 0), 6 * (98 + 7 + 9));
            Edge.is(x.done(0, 900), false);
            Edge.is(x.tell(3, 1), -1);
            Edge.is(x.person(3, 1), -1);
        });
        Edge.edge(27, "it keeps neither the tape nor the latest fault nor the works", x -> {
            Edge.town(x, "order;");
            x.image();
            Edge.feed(x, Edge.padded("order;act 1;!", 20));
            Edge.is(x.restore(), true);
            Edge.is(x.count(1), 20);
            Edge.is(x.town(20), 1);
            Edge.is(x.restore(), true);
            Edge.is(x.fault(), 12);
            Edge.is(x.count(1), 0);
        });
    }

    private static void restore() {
        Edge.edge(28, "there is none: false, and nothing changes", x -> {
            Edge.is(x.restore(), false);
            Edge.town(x, "set 1;part 1;part 2;");
            x.done(0, 0);
            x.done(0, 0);
            x.tell(0, 1);
            x.person(0, 9);
            x.weight(0, 4);
            Edge.stays(x, () -> Edge.is(x.restore(), false));
        });
        Edge.edge(28, "it is as the image again, time and again", x -> {
            Edge.town(x, "set 1 same other 9;part 1;part 2;order;act 1;act 2;");
            x.tell(1, 0);
            x.person(1, 50);
            x.weight(0, 3);
            x.done(1, 0);
            x.image();
            String before = x.look(0);
            for (int time = 0; time < 2; time++) {
                x.done(0, 1);
                x.done(1, 1);
                x.done(1, 1);
                x.tell(1, 0);
                x.tell(0, 0);
                x.person(1, 60);
                x.person(0, 70);
                x.person(0, -1);
                x.weight(0, 4);
                x.weight(1, 5);
                Edge.is(x.restore(), true);
                Edge.is(x.look(0), before);
            }
            Edge.is(x.tell(1, 0), 2);
            Edge.is(x.judge(1, 1), 0);
            Edge.is(x.person(1, 1), 2);
        });
        Edge.edge(28, "what was spent since is left again, what was spent then is spent", x -> {
            Edge.town(x, "order same other 2;act 0;act 0;act 0;");
            x.done(0, 0);
            x.image();
            x.done(0, 5);
            Edge.is(x.work(0, 5), 0);
            x.restore();
            Edge.is(x.work(0, 5), 3);
            int[] spent = {1, 1, 0, 1, 0, 0};
            for (int way = 0; way < 6; way++) {
                Edge.is(x.way(0, way, 2), spent[way]);
            }
            Edge.is(x.done(0, 5), true);
        });
        Edge.edge(28, "an image of an empty book behind a full one", x -> {
            Edge.town(x, Edge.times(4, MANY));
            x.image();
            x.drawn(100, 1000, 1, 0);
            Edge.is(x.done(0, 923), false);
            Edge.is(x.restore(), true);
            Edge.is(x.count(2), 0);
            Edge.is(x.count(4), 0);
            Edge.noSuch(() -> x.book(0, 0));
            for (int work = 0; work < 4; work++) {
                Edge.is(x.work(work, 5), 924);
            }
            Edge.is(x.drawn(100, 1000, 1, 1), 400);
        });
        Edge.edge(28, "changes behind it leave the image as it is", x -> {
            Edge.town(x, "set 1;part 1;part 2;");
            x.image();
            x.restore();
            x.done(0, 0);
            x.weight(0, 9);
            x.tell(0, 1);
            x.person(0, 1);
            x.restore();
            Edge.is(x.count(2), 0);
            Edge.is(x.years(0, 1, 0), 1);
            Edge.is(x.work(0, 8), 0);
            Edge.is(x.work(0, 9), 0);
        });
    }
}
