import java.util.ArrayList;
import java.util.Collections;
import java.util.List;
import java.util.Random;

/** The boundary cases of promises 1 and 5 to 9 and of the second of the terms: works, ways, marks, laws. */
public final class EdgesOfWaysTest {
    private static final int[] BEYOND = {-1, Integer.MIN_VALUE, Integer.MAX_VALUE};

    public static void main(String[] args) {
        newObject();
        manyCalls();
        counts();
        most();
        works();
        ways();
        nets();
        sets();
        orders();
        inOrder();
        found();
        same();
        sameByOther();
        sameBySteps();
        Check.end();
    }

    private static void ways(Counted x, int work, int... costsAndMarks) {
        Edge.is(x.work(work, 1), costsAndMarks.length / 2);
        for (int i = 0; i < costsAndMarks.length / 2; i++) {
            Edge.is(x.way(work, i, 0), costsAndMarks[2 * i]);
            Edge.is(x.way(work, i, 1), costsAndMarks[2 * i + 1]);
        }
        Edge.noSuch(() -> x.way(work, costsAndMarks.length / 2, 0));
    }

    private static void ways(String text, int... costsAndMarks) {
        ways(Edge.fresh(text), 0, costsAndMarks);
    }

    private static void newObject() {
        Edge.edge(1, "no works, an empty tape, an empty book, nothing refused", x -> {
            for (int what = 0; what <= 6; what++) {
                Edge.is(x.count(what), 0);
            }
        });
        Edge.edge(1, "there is no work 0", x -> {
            Edge.stays(x, () -> {
                Edge.noSuch(() -> x.work(0, 0));
                Edge.noSuch(() -> x.way(0, 0, 0));
                Edge.noSuch(() -> x.find(0, 0));
                Edge.noSuch(() -> x.same(0, 0, 0, 0));
                Edge.noSuch(() -> x.done(0, 0));
                Edge.noSuch(() -> x.left(0, 0));
                Edge.noSuch(() -> x.tell(0, 0));
                Edge.noSuch(() -> x.judge(0, 0));
                Edge.noSuch(() -> x.apart(0, 0, 0));
                Edge.noSuch(() -> x.years(0, 1, 0));
                Edge.noSuch(() -> x.lasts(0, 0));
                Edge.noSuch(() -> x.chance(0, 0, 0));
                Edge.noSuch(() -> x.joint(0, 1, 0));
                Edge.noSuch(() -> x.person(0, 0));
                Edge.noSuch(() -> x.given(0, 0));
                Edge.noSuch(() -> x.more(0, 0));
                Edge.noSuch(() -> x.court(0, 0, 0));
                Edge.noSuch(() -> x.near(0, 0, 0));
                Edge.noSuch(() -> x.book(0, 0));
            });
        });
        Edge.edge(1, "there is no image; of no works nothing is drawn", x -> {
            Edge.is(x.restore(), false);
            for (int what = 0; what <= 2; what++) {
                Edge.is(x.drawn(100, 1000, 1, what), 0);
            }
            Edge.is(x.count(2), 0);
        });
        Edge.edge(1, "weights are 1 before the first town, which makes them 1 again", x -> {
            Edge.is(x.weight(0, 9), true);
            Edge.town(x, "order;act 5;");
            Edge.is(x.years(0, 1, 0), 5);
        });
        Edge.edge(1, "two objects have nothing in common", x -> {
            Counted y = Edge.fresh("order;");
            Edge.is(x.count(0), 0);
            y.done(0, 0);
            Edge.town(x, "order;");
            Edge.is(x.work(0, 5), 1);
            Edge.is(y.work(0, 5), 0);
        });
        Edge.edge(1, "an object is used for 512 calls: the last one is as good as the first", x -> {
            Edge.town(x, "set 1;" + Edge.times(12, "part 1;") + Edge.times(3, "set6;" + Edge.times(12, "part1;")));
            int used = x.calls();
            for (int i = used; i < 509; i++) {
                Edge.is(x.done(1 + i % 3, i), i < used + 400);
            }
            Edge.is(x.calls(), 509);
            Edge.is(x.done(0, 0), false);
            Edge.is(x.count(2), 400);
            Edge.is(x.count(4), 509 - used - 400 + 1);
        });
    }

    private static void manyCalls() {
        Edge.edge(1, "of 512 calls the 512th answers, be all of them of one kind, and throws where it is due", x -> {
            Edge.town(x, "order;act 1;act 2;");
            while (x.calls() < Counted.MOST_CALLS) {
                Edge.is(x.count(0), 1);
            }
            Counted y = Edge.fresh("order;act 1;act 2;");
            while (y.calls() < Counted.MOST_CALLS - 1) {
                Edge.is(y.weight(99, y.calls() % 100), true);
            }
            Edge.noSuch(() -> y.work(1, 0));
        });
        Edge.edge(1, "of 512 calls all may be texts, the 512th one too", x -> {
            while (x.calls() < Counted.MOST_CALLS - 3) {
                Edge.is(x.feed(0x6f726465, 0x723b2020, 0x20202020, 0x20202020, 0x20202020), 20);
                Edge.is(x.town(20), 0);
            }
            while (x.calls() < Counted.MOST_CALLS) {
                Edge.is(x.work(0, 1), 1);
            }
        });
    }

    private static void counts() {
        Edge.edge(5, "what is 0 to 6; -1 and 7 are none", x -> {
            Edge.town(x, "order;");
            for (int what = 0; what <= 6; what++) {
                Edge.is(x.count(what), what == 0 ? 1 : 0);
            }
            Edge.stays(x, () -> {
                for (int what : new int[] {-1, 7, Integer.MIN_VALUE, Integer.MAX_VALUE}) {
                    Edge.noSuch(() -> x.count(what));
                }
            });
        });
        Edge.edge(5, "each what counts its own", x -> {
            Edge.town(x, "order;act 1;act 1;order;set 0;");
            x.done(0, 1);
            x.done(1, 0);
            x.tell(0, 9);
            Edge.feed(x, Edge.padded("x", 20));
            x.town(20);
            Edge.feed(x, Edge.padded("x", 40));
            Edge.is(x.done(1, 0), false);
            Edge.is(x.done(1, 0), false);
            for (int i = 1; i <= 3; i++) {
                x.person(0, -i);
            }
            for (int i = 0; i < 103; i++) {
                x.tell(1, i);
            }
            int[] due = {3, 40, 2, 1, 2, 3, 3};
            for (int what = 0; what <= 6; what++) {
                Edge.is(x.count(what), due[what]);
            }
        });
    }

    private static void most() {
        Edge.edge(5, "the most that is counted: 6 works, 700 bytes, 400 of the book", x -> {
            Edge.town(x, Edge.times(6, "set6;" + Edge.times(12, "part1;")));
            Edge.is(x.count(0), 6);
            Edge.is(x.drawn(100, 1000, 1, 1), 400);
            Edge.is(x.count(2), 400);
            Edge.is(x.done(0, 900), false);
            Edge.is(x.count(2), 400);
            Edge.feed(x, Edge.padded("", 700));
            Edge.is(x.count(1), 700);
            Edge.is(x.feed(0, 0, 0, 0, 0), -1);
            Edge.is(x.count(1), 700);
        });
        Edge.edge(6, "the most of a work: 400 done of one, 100 marks, 12 people", x -> {
            Edge.town(x, "order;set6;" + Edge.times(12, "part1;"));
            x.done(0, 0);
            for (int i = 1; i <= 101; i++) {
                x.tell(1, i);
            }
            for (int i = 1; i <= 13; i++) {
                x.person(1, i);
            }
            for (int i = 0; i < 4; i++) {
                x.drawn(100, 1000, 1, 0);
            }
            int[] due = {1, 924, 0, 0, 12, 924 - 399, 399, 0, 100, 12};
            for (int what = 0; what <= 9; what++) {
                Edge.is(x.work(1, what), due[what]);
            }
            Edge.is(x.work(0, 6), 1);
            Counted y = Edge.fresh("set6;" + Edge.times(12, "part1;"));
            for (int i = 0; i < 5; i++) {
                y.drawn(100, 1000, 1, 0);
            }
            Edge.is(y.work(0, 6), 400);
            Edge.is(y.work(0, 5), 524);
        });
        Edge.edge(6, "the most of a work: 20 steps, 12 parts, 6 acts", x -> {
            Edge.town(x, "net2;" + Edge.times(20, "step0 1 1;") + "set0;" + Edge.times(12, "part1;") + "order;" + Edge.times(6, "act1;"));
            int[] due = {20, 12, 6};
            for (int work = 0; work < 3; work++) {
                Edge.is(x.work(work, 4), due[work]);
            }
        });
    }

    private static void works() {
        Edge.edge(6, "what is 0 to 9; -1 and 10 are none", x -> {
            Edge.town(x, "set 1 same other 3;part 7;part 8 free;part 9 free;");
            x.done(0, 0);
            x.tell(0, 1);
            x.tell(0, 1);
            x.tell(0, 1);
            x.tell(0, 1);
            x.person(0, 1);
            x.person(0, 1);
            int[] due = {1, 3, 2, 3, 3, 0, 1, 6, 4, 2};
            for (int what = 0; what <= 9; what++) {
                Edge.is(x.work(0, what), due[what]);
            }
            Edge.stays(x, () -> {
                for (int what : new int[] {-1, 10, Integer.MIN_VALUE, Integer.MAX_VALUE}) {
                    Edge.noSuch(() -> x.work(0, what));
                }
            });
        });
        Edge.edge(6, "works are 0 to one below how many there are", x -> {
            Edge.town(x, "net 2;set 1;order;net 2;set 1;order;");
            for (int work = 0; work < 6; work++) {
                Edge.is(x.work(work, 0), work % 3);
            }
            Edge.noSuch(() -> x.work(6, 0));
            for (int work : BEYOND) {
                Edge.noSuch(() -> x.work(work, 0));
            }
            Edge.town(x, "order;");
            Edge.is(x.work(0, 0), 2);
            Edge.noSuch(() -> x.work(1, 0));
        });
        Edge.edge(6, "the number of OTHER is 0 of the other laws", x -> {
            Edge.town(x, "set 1;part 1;set 1 same steps;part 1;set 1 same other 9;part 1;net 2 same other 1;");
            int[] laws = {0, 1, 2, 2};
            int[] numbers = {0, 0, 9, 1};
            for (int work = 0; work < 4; work++) {
                Edge.is(x.work(work, 2), laws[work]);
                Edge.is(x.work(work, 3), numbers[work]);
            }
        });
        Edge.edge(6, "of a work of nothing there are no parts, and no bits are free", x -> {
            Edge.town(x, "net 2;set 0;order;set 1;");
            int[] ways = {0, 1, 1, 0};
            for (int work = 0; work < 4; work++) {
                Edge.is(x.work(work, 1), ways[work]);
                Edge.is(x.work(work, 4), 0);
                Edge.is(x.work(work, 5), ways[work]);
                for (int what = 6; what <= 9; what++) {
                    Edge.is(x.work(work, what), 0);
                }
            }
        });
        Edge.edge(6, "the bits of what is free: from the first to the last of 20, 12, 6", x -> {
            Edge.town(x, "net2;step0 1 1free;" + Edge.times(18, "step0 1 1;") + "step0 1 1free;"
                    + "set1;part1free;" + Edge.times(10, "part1;") + "part1free;order;act1free;" + Edge.times(4, "act1;") + "act1free;");
            Edge.is(x.work(0, 7), 1 | 1 << 19);
            Edge.is(x.work(1, 7), 1 | 1 << 11);
            Edge.is(x.work(2, 7), 1 | 1 << 5);
            Edge.town(x, "net2;" + Edge.times(20, "step0 1 1free;"));
            Edge.is(x.work(0, 7), (1 << 20) - 1);
        });
        Edge.edge(6, "all are left at first, none when all are spent", x -> {
            Edge.town(x, "set 1;part 1;part 1;");
            Edge.is(x.work(0, 5), 2);
            x.done(0, 1);
            Edge.is(x.work(0, 5), 1);
            x.done(0, 0);
            Edge.is(x.work(0, 5), 0);
            Edge.is(x.work(0, 6), 2);
        });
    }

    private static void ways() {
        Edge.edge(7, "what is 0 to 3; -1 and 4 are none", x -> {
            Edge.town(x, "set 1;part 7;part 5;");
            int[] due = {7, 1, 0, 1};
            for (int what = 0; what <= 3; what++) {
                Edge.is(x.way(0, 1, what), due[what]);
            }
            Edge.stays(x, () -> {
                for (int what : new int[] {-1, 4, Integer.MIN_VALUE, Integer.MAX_VALUE}) {
                    Edge.noSuch(() -> x.way(0, 0, what));
                }
            });
        });
        Edge.edge(7, "ways are 0 to one below how many there are, everywhere", x -> {
            Edge.town(x, "set 1;part 7;part 5;net 2;");
            Edge.is(x.way(0, 0, 0), 5);
            Edge.is(x.way(0, 1, 0), 7);
            Edge.stays(x, () -> {
                for (int way : new int[] {2, -1, Integer.MIN_VALUE, Integer.MAX_VALUE}) {
                    Edge.noSuch(() -> x.way(0, way, 0));
                    Edge.noSuch(() -> x.same(0, way, 0, 0));
                    Edge.noSuch(() -> x.same(0, 0, way, 0));
                    Edge.noSuch(() -> x.done(0, way));
                    Edge.noSuch(() -> x.near(0, way, 0));
                }
                Edge.noSuch(() -> x.way(1, 0, 0));
                Edge.noSuch(() -> x.same(1, 0, 0, 0));
                Edge.noSuch(() -> x.done(1, 0));
                Edge.noSuch(() -> x.near(1, 0, 0));
            });
        });
        Edge.edge(7, "a spent one has no number among those left, those behind it move up", x -> {
            Edge.town(x, "set 1;part 1;part 2;part 3;");
            int[][] numbers = {{0, 1, 2}, {0, -1, 1}, {-1, -1, 0}, {-1, -1, -1}};
            int[] next = {1, 0, 2};
            for (int turn = 0; turn <= 3; turn++) {
                for (int way = 0; way < 3; way++) {
                    Edge.is(x.way(0, way, 3), numbers[turn][way]);
                    Edge.is(x.way(0, way, 2), numbers[turn][way] == -1 ? 1 : 0);
                }
                if (turn < 3) {
                    x.done(0, next[turn]);
                }
            }
        });
        Edge.edge(7, "a way that was not done is spent with one that is the same", x -> {
            Edge.town(x, "set 1 same other 3;part 1;part 2;part 3;");
            x.done(0, 1);
            for (int way = 0; way < 3; way++) {
                Edge.is(x.way(0, way, 2), 1);
                Edge.is(x.way(0, way, 3), -1);
            }
        });
    }

    private static void nets() {
        Edge.edge(6, "a net's way leads from place 0 to the last one", x -> {
            ways("net 2;");
            ways("net 2;step 0 1 0;", 0, 1);
            ways("net 3;step 0 1 1;");
            ways("net 3;step 1 2 1;");
            ways("net 3;step 1 2 1;step 0 1 1;", 2, 3);
            ways("net 3;step 0 2 7;step 0 1 1;", 7, 1);
            ways("net 4;step 0 1 1;step 2 3 1;");
            ways("net 4;step 0 1 1;step 2 3 1;step 1 2 1;", 3, 7);
        });
        Edge.edge(6, "a net's longest way has eleven steps, through all twelve places", x -> {
            StringBuilder net = new StringBuilder("net 12;");
            for (int place = 10; place >= 0; place--) {
                net.append("step ").append(place).append(' ').append(place + 1).append(" 999;");
            }
            ways(net + "step 0 11 5;", 5, 1 << 11, 11 * 999, (1 << 11) - 1);
        });
        Edge.edge(6, "a net of twenty steps: its marks have twenty bits", x -> {
            Edge.town(x, "net 2;" + Edge.times(19, "step 0 1 1;") + "step 0 1 0;");
            Edge.is(x.work(0, 1), 20);
            Edge.is(x.way(0, 0, 1), 1 << 19);
            Edge.is(x.way(0, 19, 1), 1 << 18);
            Edge.is(x.find(0, 1 << 19), 0);
        });
        Edge.edge(6, "the most ways of a net are 1458", x -> {
            StringBuilder net = new StringBuilder("net8;");
            for (int place = 0; place < 6; place++) {
                for (int i = 0; i < 3; i++) {
                    net.append("step").append(place).append(' ').append(place + 1).append(' ').append(333 * (i + 1)).append(';');
                }
            }
            Edge.town(x, net + "step6 7 0;step6 7 999;");
            Edge.is(x.work(0, 1), 1458);
            Edge.is(x.way(0, 0, 0), 6 * 333);
            Edge.is(x.way(0, 1457, 0), 7 * 999);
            Edge.is(x.way(0, 1457, 1), 1 << 19 | 0x24924);
            Edge.is(x.way(0, 1457, 3), 1457);
            Edge.is(x.left(0, 1457), 1457);
            Edge.is(x.left(0, 1458), -1);
            Edge.is(x.find(0, 1 << 19 | 0x24924), 1457);
            Edge.noSuch(() -> x.way(0, 1458, 0));
        });
    }

    private static void sets() {
        Edge.edge(6, "a set of no parts: of number 0 one way of mark 0, of number 1 none", x -> {
            ways("set 0;", 0, 0);
            ways("set 1;");
            ways("set 12;");
        });
        Edge.edge(6, "a set has so many parts as its number: none, all, never more", x -> {
            ways("set 0;part 5;part 6;", 0, 0);
            ways("set 1;part 5;part 6;", 5, 1, 6, 2);
            ways("set 2;part 5;part 6;", 11, 3);
            ways("set 3;part 5;part 6;");
            ways("set 12;" + Edge.times(12, "part 999;"), 12 * 999, 4095);
            ways("set 12;" + Edge.times(11, "part 1;"));
        });
        Edge.edge(6, "not both A and B of a BOTH, one or none may be", x -> {
            ways("set 0;part 1;part 2;both 0 1;", 0, 0);
            ways("set 1;part 1;part 2;both 0 1;", 1, 1, 2, 2);
            ways("set 2;part 1;part 2;both 0 1;");
            ways("set 2;part 1;part 2;both 1 0;");
            ways("set 2;part 1;part 2;part 4;both 1 0;", 5, 5, 6, 6);
        });
        Edge.edge(6, "with A also B of a NEEDS, but B may be without A", x -> {
            ways("set 0;part 1;part 2;needs 0 1;", 0, 0);
            ways("set 1;part 1;part 2;needs 0 1;", 2, 2);
            ways("set 1;part 1;part 2;needs 1 0;", 1, 1);
            ways("set 2;part 1;part 2;needs 0 1;", 3, 3);
            ways("set 1;part 1;part 2;needs 0 1;needs 1 0;");
            ways("set 2;part 1;part 2;needs 0 1;needs 1 0;", 3, 3);
            ways("set 2;part 1;part 2;part 4;needs 0 1;needs 1 2;", 6, 6);
            ways("set 2;part 1;part 2;part 4;needs 0 1;needs 0 2;", 6, 6);
        });
        Edge.edge(6, "a BOTH and a NEEDS of the same two: A never", x -> {
            ways("set 1;part 1;part 2;both 0 1;needs 0 1;", 2, 2);
            ways("set 2;part 1;part 2;part 4;both 0 1;needs 0 1;", 6, 6);
        });
        Edge.edge(6, "BOTH and NEEDS hold of the last of twelve parts, the twelfth of them too", x -> {
            String set = "set 1;" + Edge.times(12, "part 1;");
            Edge.town(x, set + Edge.times(11, "both 0 1;") + "needs 11 0;");
            Edge.is(x.work(0, 1), 11);
            Edge.is(x.find(0, 2048), -1);
            Edge.is(x.find(0, 1024), 10);
            Edge.town(x, "set 2;" + Edge.times(12, "part 1;") + Edge.times(11, "both 0 1;") + "both 11 10;");
            Edge.is(x.work(0, 1), 64);
            Edge.is(x.find(0, 3072), -1);
            Edge.is(x.find(0, 3), -1);
        });
        Edge.edge(6, "the most ways of a set are 924", x -> {
            Edge.town(x, "set 6;" + Edge.times(12, "part 999;"));
            Edge.is(x.work(0, 1), 924);
            Edge.is(x.way(0, 0, 1), 63);
            Edge.is(x.way(0, 923, 1), 4032);
            Edge.is(x.way(0, 923, 0), 6 * 999);
            Edge.noSuch(() -> x.way(0, 924, 0));
        });
    }

    private static void orders() {
        Edge.edge(6, "an order of no acts has one way of mark 0, of one act one too", x -> {
            ways("order;", 0, 0);
            ways("order;act 7;", 7, 0);
        });
        Edge.edge(6, "each A ahead of its B; both of each other: none", x -> {
            ways("order;act 1;act 5;", 7, 0, 11, 1);
            ways("order;act 1;act 5;ahead 0 1;", 11, 1);
            ways("order;act 1;act 5;ahead 1 0;", 7, 0);
            ways("order;act 1;act 5;ahead 1 0;ahead 0 1;");
            ways("order;act 0;act 0;act 0;ahead 0 1;ahead 1 2;ahead 2 0;");
            ways("order;act 0;act 0;act 0;ahead 0 1;ahead 1 2;", 0, 7);
        });
        Edge.edge(6, "its cost is of each act its cost by its place, from 1 on", x -> {
            ways("order;act 100;act 10;act 1;ahead 0 1;ahead 1 2;", 100 + 20 + 3, 7);
            ways("order;act 100;act 10;act 1;ahead 2 1;ahead 1 0;", 1 + 20 + 300, 0);
            Counted y = Edge.fresh("order;" + Edge.times(6, "act 999;"));
            Edge.is(y.work(0, 1), 720);
            Edge.is(y.way(0, 0, 0), 20979);
            Edge.is(y.way(0, 719, 0), 20979);
            Edge.is(y.way(0, 0, 1), 0);
            Edge.is(y.way(0, 719, 1), 32767);
            Edge.noSuch(() -> y.way(0, 720, 0));
        });
        Edge.edge(6, "the bits of its couples, from 0 and 1 (bit 0) to 4 and 5 (bit 14)", x -> {
            Random random = new Random(5);
            List<Integer> acts = new ArrayList<>(List.of(0, 1, 2, 3, 4, 5));
            for (int turn = 0; turn < 60; turn++) {
                StringBuilder order = new StringBuilder("order;act 1;act 2;act 4;act 8;act 16;act 32;");
                int mark = 0;
                int cost = 0;
                for (int place = 0; place < 6; place++) {
                    cost += (1 << acts.get(place)) * (place + 1);
                    if (place > 0) {
                        order.append("ahead ").append(acts.get(place - 1)).append(' ').append(acts.get(place)).append(';');
                    }
                }
                int bit = 0;
                for (int j = 1; j < 6; j++) {
                    for (int i = 0; i < j; i++) {
                        mark |= acts.indexOf(i) < acts.indexOf(j) ? 1 << bit : 0;
                        bit++;
                    }
                }
                ways(order.toString(), cost, mark);
                Collections.shuffle(acts, random);
            }
        });
    }

    private static void inOrder() {
        Edge.edge(7, "by cost, of like ones by mark, the lesser first", x -> {
            ways("set 1;part 2;part 2;part 1;part 2;part 1;", 1, 4, 1, 16, 2, 1, 2, 2, 2, 8);
            ways("net 2;step 0 1 999;step 0 1 0;step 0 1 999;step 0 1 998;", 0, 2, 998, 8, 999, 1, 999, 4);
            ways("order;act 0;act 0;act 0;", 0, 0, 0, 1, 0, 3, 0, 4, 0, 6, 0, 7);
        });
        Edge.edge(7, "so are those of the greatest works", x -> {
            for (String text : new String[] {"order;act 7;act 3;act 9;act 3;act 8;act 3;",
                "set 6;" + Edge.times(4, "part 3;part 1;part 2;")}) {
                for (int from = 0; from < 720; from += 90) {
                    Counted y = Edge.fresh(text);
                    for (int way = from + 1; way <= from + 90 && way < 720; way++) {
                        int more = y.way(0, way, 0) - y.way(0, way - 1, 0);
                        Edge.is(more > 0 || more == 0 && y.way(0, way, 1) > y.way(0, way - 1, 1), true);
                    }
                }
            }
        });
    }

    private static void found() {
        Edge.edge(8, "the way of a mark; none of a mark that is none, however great or small", x -> {
            Edge.town(x, "set 1;part 9;part 8;part 7;");
            Edge.is(x.find(0, 1), 2);
            Edge.is(x.find(0, 2), 1);
            Edge.is(x.find(0, 4), 0);
            Edge.stays(x, () -> {
                for (int mark : new int[] {0, 3, 5, 7, 8, -1, -4, 1 << 20, 1 << 20 | 1, 1 << 31 | 1, Integer.MIN_VALUE,
                    Integer.MAX_VALUE}) {
                    Edge.is(x.find(0, mark), -1);
                }
            });
        });
        Edge.edge(8, "mark 0 where it is one, and where it is none", x -> {
            Edge.town(x, "set 0;part 1;order;act 1;act 2;set 1;part 1;net 2;");
            Edge.is(x.find(0, 0), 0);
            Edge.is(x.find(1, 0), 0);
            Edge.is(x.find(1, 1), 1);
            Edge.is(x.find(2, 0), -1);
            Edge.is(x.find(3, 0), -1);
        });
        Edge.edge(8, "a spent way is found too", x -> {
            Edge.town(x, "order;");
            x.done(0, 0);
            Edge.is(x.find(0, 0), 0);
        });
        Edge.edge(8, "no such work", x -> {
            Edge.town(x, "order;");
            Edge.noSuch(() -> x.find(1, 0));
            Edge.noSuch(() -> x.find(-1, 0));
        });
    }

    private static void same() {
        Edge.edge(9, "what is 0 or 1; -1 and 2 are none", x -> {
            Edge.town(x, "order;act 1;act 2;");
            Edge.is(x.same(0, 0, 1, 0), 1);
            Edge.is(x.same(0, 0, 1, 1), 0);
            Edge.stays(x, () -> {
                for (int what : new int[] {-1, 2, Integer.MIN_VALUE, Integer.MAX_VALUE}) {
                    Edge.noSuch(() -> x.same(0, 0, 1, what));
                }
            });
        });
        Edge.edge(9, "a way is other than itself by 0 bits, and the same, by each law", x -> {
            Edge.town(x, "order;order same steps;order same other 1;order same other 9;");
            for (int work = 0; work < 4; work++) {
                Edge.is(x.same(work, 0, 0, 0), 0);
                Edge.is(x.same(work, 0, 0, 1), 1);
            }
        });
        Edge.edge(9, "spent ways are asked about as any other", x -> {
            Edge.town(x, "order same other 2;act 1;act 1;");
            x.done(0, 0);
            Edge.is(x.same(0, 0, 1, 0), 1);
            Edge.is(x.same(0, 1, 0, 1), 1);
        });
        Edge.edge(9, "by ROW two are the same only if no bit is unlike, be it free", x -> {
            Edge.town(x, "order;act 1 free;act 2 free;");
            Edge.is(x.same(0, 0, 1, 0), 1);
            Edge.is(x.same(0, 0, 1, 1), 0);
            Edge.is(x.same(0, 1, 1, 1), 1);
        });
    }

    private static void sameByOther() {
        for (int unlike = 2; unlike <= 9; unlike++) {
            int by = unlike;
            Edge.edge(9, "by OTHER two that are other by " + by + " are not the same by that number, but by one more", x -> {
                StringBuilder rows = new StringBuilder("step 0 ").append(by - 1).append(" 1;");
                for (int place = 0; place < by - 1; place++) {
                    rows.append("step ").append(place).append(' ').append(place + 1).append(" 1;");
                }
                for (int number = 1; number <= 9; number++) {
                    Counted y = Edge.fresh("net " + by + " same other " + number + ";" + rows);
                    Edge.is(y.work(0, 1), 2);
                    Edge.is(y.same(0, 0, 1, 0), by);
                    Edge.is(y.same(0, 0, 1, 1), by < number ? 1 : 0);
                    Edge.is(y.same(0, 1, 0, 1), by < number ? 1 : 0);
                    y.done(0, 0);
                    Edge.is(y.work(0, 5), by < number ? 0 : 1);
                }
            });
        }
        Edge.edge(9, "by OTHER 1 only those of no unlike bit are the same, by OTHER 2 those of one", x -> {
            Edge.town(x, "order same other 1;act 1;act 2;order same other 2;act 1;act 2;");
            Edge.is(x.same(0, 0, 1, 1), 0);
            Edge.is(x.same(0, 1, 1, 1), 1);
            Edge.is(x.same(1, 0, 1, 1), 1);
        });
        Edge.edge(9, "by OTHER what is free counts as what is not", x -> {
            Edge.town(x, "set 1 same other 2;part 1 free;part 2 free;set 1 same other 3;part 1 free;part 2;");
            Edge.is(x.same(0, 0, 1, 1), 0);
            Edge.is(x.same(1, 0, 1, 1), 1);
        });
    }

    private static void sameBySteps() {
        Edge.edge(9, "by STEPS two are the same if all unlike bits are free, not if one of them isn't", x -> {
            Edge.town(x, "net 2 same steps;step 0 1 1;step 0 1 2 free;step 0 1 3 free;step 0 1 4;");
            int[][] same = {{1, 0, 0, 0}, {0, 1, 1, 0}, {0, 1, 1, 0}, {0, 0, 0, 1}};
            for (int i = 0; i < 4; i++) {
                for (int j = 0; j < 4; j++) {
                    Edge.is(x.same(0, i, j, 1), same[i][j]);
                    Edge.is(x.same(0, i, j, 0), i == j ? 0 : 2);
                }
            }
        });
        Edge.edge(9, "by STEPS, if nothing is free, two are the same only by their marks; if all is, all are", x -> {
            Edge.town(x, "set 1 same steps;part 1;part 2;set 1 same steps;part 1 free;part 2 free;order same steps;act 1;act 2;"
                    + "order same steps;act 1 free;act 2 free;");
            for (int work = 0; work < 4; work++) {
                Edge.is(x.same(work, 0, 1, 1), work % 2);
                Edge.is(x.same(work, 1, 1, 1), 1);
            }
        });
        Edge.edge(9, "by STEPS the bits of the first and the last of twenty steps, of twelve parts", x -> {
            Edge.town(x, "net2same steps;step0 1 1free;" + Edge.times(18, "step0 1 2;") + "step0 1 3free;"
                    + "set1same steps;part1free;" + Edge.times(10, "part2;") + "part3free;");
            Edge.is(x.same(0, 0, 19, 1), 1);
            Edge.is(x.same(0, 0, 1, 1), 0);
            Edge.is(x.same(0, 18, 19, 1), 0);
            Edge.is(x.same(1, 0, 11, 1), 1);
            Edge.is(x.same(1, 10, 11, 1), 0);
        });
        Edge.edge(9, "by STEPS of an order, couples one of which is free, the lower or the higher, or both", x -> {
            for (int free = 0; free < 64; free++) {
                StringBuilder order = new StringBuilder("order same steps;");
                for (int act = 0; act < 6; act++) {
                    order.append((free >> act & 1) != 0 ? "act 1 free;" : "act 1;");
                }
                Counted y = Edge.fresh(order.toString());
                // each couple of neighbours turned is one bit: 5 4 3 2 1 0 is mark 0
                for (int low = 0; low < 5; low++) {
                    int way = y.find(0, 1 << low * (low + 1) / 2 + low);
                    boolean loose = (free >> low & 3) != 0;
                    Edge.is(y.same(0, 0, way, 1), loose ? 1 : 0);
                }
                // 0 behind all others and 5 ahead of all others, turned: 0 5 apart from 4 3 2 1
                int all = y.find(0, 32767);
                Edge.is(y.same(0, 0, all, 1), Integer.bitCount(free) >= 5 ? 1 : 0);
            }
        });
        Edge.edge(9, "by STEPS a couple that is not of neighbours", x -> {
            Edge.town(x, "order same steps;act 1;act 1;act 1 free;");
            // 0 1 2 is 7, 0 2 1 is 3, 2 0 1 is 1; 1 0 2 is 6, 1 2 0 is 4, 2 1 0 is 0
            int[] marks = {0, 1, 3, 4, 6, 7};
            for (int i = 0; i < 6; i++) {
                for (int j = 0; j < 6; j++) {
                    Edge.is(x.same(0, i, j, 1), (marks[i] & 1) == (marks[j] & 1) ? 1 : 0);
                }
            }
        });
    }
}
