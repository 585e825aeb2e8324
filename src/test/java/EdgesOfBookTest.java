/** The boundary cases of promises 10 to 14 and 24: the book, what is left, marks told, other laws. */
public final class EdgesOfBookTest {
    private static final String MANY = "set6;" + Edge.times(12, "part1;");
    private static final int[] BEYOND = {-1, Integer.MIN_VALUE, Integer.MAX_VALUE};

    public static void main(String[] args) {
        done();
        full();
        book();
        left();
        tell();
        judge();
        judgeByLaws();
        court();
        courtWrong();
        Check.end();
    }

    private static void left(Counted x, int work, int... ways) {
        Edge.is(x.work(work, 5), ways.length);
        for (int i = 0; i < ways.length; i++) {
            Edge.is(x.left(work, i), ways[i]);
        }
        Edge.is(x.left(work, ways.length), -1);
    }

    private static void done() {
        Edge.edge(10, "the first and the last way can be done, once each", x -> {
            Edge.town(x, "set 1;part 1;part 2;part 3;");
            Edge.is(x.done(0, 2), true);
            Edge.is(x.done(0, 0), true);
            left(x, 0, 1);
            Edge.staysBut(x, 4, 2, () -> {
                Edge.is(x.done(0, 2), false);
                Edge.is(x.done(0, 0), false);
            });
            Edge.is(x.done(0, 1), true);
            left(x, 0);
        });
        Edge.edge(10, "a spent one, done itself or the same as one that was, is refused; all else stays", x -> {
            Edge.town(x, "net 2 same steps;step 0 1 1 free;step 0 1 2 free;step 0 1 3;");
            Edge.is(x.done(0, 1), true);
            Edge.staysBut(x, 4, 2, () -> {
                Edge.is(x.done(0, 1), false);
                Edge.is(x.done(0, 0), false);
            });
            Edge.is(x.count(2), 1);
            Edge.is(x.done(0, 2), true);
        });
        Edge.edge(10, "one that is other by just its NUMBER is left, by one fewer it is spent", x -> {
            // marks 0 1 3 4 6 7
            Edge.town(x, "order same other 2;act 0;act 0;act 0;order same other 3;act 0;act 0;act 0;");
            x.done(0, 0);
            left(x, 0, 2, 4, 5);
            x.done(1, 0);
            left(x, 1, 5);
            Edge.is(x.done(0, 1), false);
            Edge.is(x.done(0, 2), true);
        });
        Edge.edge(10, "what was spent spends nothing itself", x -> {
            Edge.town(x, "order same other 2;act 0;act 0;act 0;");
            x.done(0, 0);
            Edge.is(x.done(0, 1), false);
            // mark 3 is other than 1 by 1, than 0 by 2
            Edge.is(x.way(0, 2, 2), 0);
        });
        Edge.edge(10, "a way of one work spends none of another, though their marks are the same", x -> {
            Edge.town(x, "set 1 same other 9;part 1;part 2;set 1 same other 9;part 1;part 2;");
            x.done(0, 0);
            left(x, 0);
            left(x, 1, 0, 1);
            Edge.is(x.done(1, 0), true);
            left(x, 1);
        });
        Edge.edge(10, "no such work, no such way: nothing is done or refused", x -> {
            Edge.town(x, "order;act 1;act 2;net 2;");
            Edge.stays(x, () -> {
                for (int one : BEYOND) {
                    Edge.noSuch(() -> x.done(one, 0));
                    Edge.noSuch(() -> x.done(0, one));
                }
                Edge.noSuch(() -> x.done(2, 0));
                Edge.noSuch(() -> x.done(0, 2));
                Edge.noSuch(() -> x.done(1, 0));
            });
        });
    }

    private static void full() {
        Edge.edge(10, "the 400th of the book is done; the 401st is refused, of each work; all else stays", x -> {
            Edge.town(x, MANY + MANY + "order;act 1;act 2;");
            Edge.is(x.drawn(67, 1000, 1, 1), 136);
            Edge.is(x.drawn(100, 0, 1, 1), 0);
            for (int i = 136; i < 399; i++) {
                x.done(i % 2, i);
            }
            Edge.is(x.count(2), 399);
            Edge.is(x.done(0, 900), true);
            Edge.is(x.count(2), 400);
            Edge.is(x.count(4), 0);
            Edge.is(x.done(0, 901), false);
            Edge.is(x.done(1, 901), false);
            Edge.is(x.count(2), 400);
            Edge.is(x.count(4), 2);
            Edge.is(x.way(0, 901, 2), 0);
            Edge.is(x.way(1, 901, 2), 0);
            Edge.is(x.work(0, 6) + x.work(1, 6) + x.work(2, 6), 400);
            Edge.is(x.book(399, 1), 900);
        });
        Edge.edge(10, "a full book refuses a work of which nothing was done; what is left of it stays", x -> {
            Edge.town(x, Edge.times(4, MANY) + "order;act 1;act 2;");
            for (int i = 0; i < 4; i++) {
                x.weight(i, 2);
            }
            Edge.is(x.drawn(1, 1000, 1, 1), 5);
            x.image();
            Edge.is(x.drawn(98, 1000, 1, 1), 98 * 4 + 1);
            Edge.is(x.count(2), 398);
            Edge.is(x.done(0, 500), true);
            Edge.is(x.done(0, 501), true);
            Edge.is(x.done(0, 502), false);
            Edge.is(x.done(4, 0), false);
            Edge.is(x.count(4), 2);
            Edge.is(x.restore(), true);
            Edge.is(x.count(2), 5);
            Edge.is(x.done(4, 1), true);
            Edge.is(x.done(0, 502), true);
            Edge.is(x.count(4), 0);
        });
        Edge.edge(10, "what a full book refuses leaves all else as it was; a spent one is refused once then, too", x -> {
            Edge.town(x, Edge.times(4, MANY));
            Edge.is(x.drawn(100, 1000, 1, 1), 400);
            Edge.staysBut(x, 4, 3, () -> {
                Edge.is(x.done(0, 0), false);
                Edge.is(x.done(0, 100), false);
                Edge.is(x.done(3, 923), false);
            });
        });
        Edge.edge(10, "behind a town the full book has room again", x -> {
            Edge.town(x, Edge.times(4, MANY));
            Edge.is(x.drawn(100, 1000, 1, 1), 400);
            Edge.is(x.done(0, 600), false);
            Edge.town(x, Edge.times(4, MANY));
            Edge.is(x.count(2), 0);
            Edge.is(x.drawn(100, 1000, 1, 1), 400);
            Edge.is(x.done(0, 600), false);
        });
    }

    private static void book() {
        Edge.edge(11, "the first and the last of the book; none ahead or behind, in an empty one none at all", x -> {
            Edge.town(x, "order;act 1;act 2;set 1;part 1;");
            Edge.noSuch(() -> x.book(0, 0));
            x.done(1, 0);
            Edge.is(x.book(0, 0), 1);
            Edge.noSuch(() -> x.book(1, 0));
            x.done(0, 1);
            Edge.is(x.book(0, 0), 1);
            Edge.is(x.book(0, 1), 0);
            Edge.is(x.book(1, 0), 0);
            Edge.is(x.book(1, 1), 1);
            Edge.stays(x, () -> {
                Edge.noSuch(() -> x.book(2, 0));
                Edge.noSuch(() -> x.book(2, 1));
                for (int i : BEYOND) {
                    Edge.noSuch(() -> x.book(i, 0));
                }
            });
        });
        Edge.edge(11, "what is 0 or 1; -1 and 2 are none", x -> {
            Edge.town(x, "order;act 1;act 2;");
            x.done(0, 1);
            Edge.is(x.book(0, 0), 0);
            Edge.is(x.book(0, 1), 1);
            Edge.noSuch(() -> x.book(0, 2));
            for (int what : BEYOND) {
                Edge.noSuch(() -> x.book(0, what));
            }
        });
        Edge.edge(11, "of a full book the 0th and the 399th, not the 400th", x -> {
            Edge.town(x, Edge.times(4, MANY));
            Edge.is(x.drawn(99, 1000, 1, 1), 396);
            for (int way = 500; way < 503; way++) {
                x.done(2, way);
            }
            Edge.noSuch(() -> x.book(399, 0));
            Edge.is(x.done(1, 920), true);
            Edge.is(x.book(0, 0), 0);
            Edge.is(x.book(0, 1), 0);
            Edge.is(x.book(399, 0), 1);
            Edge.is(x.book(399, 1), 920);
            Edge.noSuch(() -> x.book(400, 0));
        });
        Edge.edge(11, "what is refused is not in the book", x -> {
            Edge.town(x, "order;act 1;act 2;");
            x.done(0, 1);
            x.done(0, 1);
            Edge.noSuch(() -> x.book(1, 0));
        });
    }

    private static void left() {
        Edge.edge(12, "the first and the last one left; none behind it, however far; i below 0 throws", x -> {
            Edge.town(x, "set 1;part 1;part 2;part 3;");
            Edge.is(x.left(0, 0), 0);
            Edge.is(x.left(0, 2), 2);
            Edge.stays(x, () -> {
                Edge.is(x.left(0, 3), -1);
                Edge.is(x.left(0, Integer.MAX_VALUE), -1);
                Edge.noSuch(() -> x.left(0, -1));
                Edge.noSuch(() -> x.left(0, Integer.MIN_VALUE));
            });
        });
        Edge.edge(12, "of none left there is no first; i below 0 throws then too", x -> {
            Edge.town(x, "net 2;order;");
            Edge.is(x.left(0, 0), -1);
            Edge.is(x.left(1, 0), 0);
            x.done(1, 0);
            Edge.is(x.left(1, 0), -1);
            Edge.noSuch(() -> x.left(0, -1));
            Edge.noSuch(() -> x.left(1, -1));
        });
        Edge.edge(12, "no such work", x -> {
            Edge.town(x, "order;");
            Edge.noSuch(() -> x.left(1, 0));
            Edge.noSuch(() -> x.left(-1, 0));
            Edge.noSuch(() -> x.left(1, -1));
        });
        Edge.edge(12, "it is counted among those left, be the spent one the first, a middle or the last one", x -> {
            Edge.town(x, "set 1;" + Edge.times(5, "part 1;"));
            x.done(0, 2);
            left(x, 0, 0, 1, 3, 4);
            x.done(0, 4);
            left(x, 0, 0, 1, 3);
            x.done(0, 0);
            left(x, 0, 1, 3);
        });
    }

    private static void tell() {
        Edge.edge(13, "the 100th of a work is told, the 101st refused; another work has room; all else stays", x -> {
            Edge.town(x, "order;act 1;order;act 1;");
            for (int i = 1; i <= 99; i++) {
                Edge.is(x.tell(0, i), i);
            }
            Edge.is(x.tell(0, 0), 100);
            Edge.is(x.count(5), 0);
            Edge.staysBut(x, 5, 2, () -> {
                Edge.is(x.tell(0, 0), -1);
                Edge.is(x.tell(0, -7), -1);
            });
            Edge.is(x.work(0, 8), 100);
            Edge.is(x.work(1, 8), 0);
            Edge.is(x.tell(1, 0), 1);
        });
        Edge.edge(13, "six works have 100 each", x -> {
            for (int half = 0; half < 2; half++) {
                Counted y = Edge.fresh(Edge.times(6, "order;"));
                int from = 3 * half;
                for (int i = 1; i <= 100; i++) {
                    for (int work = from; work < from + 3; work++) {
                        Edge.is(y.tell(work, i == 1 ? 0 : i == 100 ? 0 : 5), i);
                    }
                }
                for (int work = 0; work < 6; work++) {
                    boolean told = work >= from && work < from + 3;
                    Edge.is(y.work(work, 8), told ? 100 : 0);
                    Edge.is(y.judge(work, 0), told ? 1 : -1);
                }
            }
        });
        Edge.edge(13, "the 100th is looked at, the refused 101st is not", x -> {
            Edge.town(x, "order;" + Edge.times(6, "act 1;"));
            for (int i = 0; i < 99; i++) {
                x.tell(0, x.way(0, 3 * i, 1));
            }
            x.image();
            x.tell(0, x.way(0, 718, 1));
            Edge.is(x.judge(0, 0), -1);
            Edge.is(x.tell(0, -1), -1);
            Edge.is(x.judge(0, 0), -1);
            x.restore();
            Edge.is(x.tell(0, x.way(0, 3 * 98, 1)), 100);
            Edge.is(x.judge(0, 0), 99);
            Edge.is(x.judge(0, 1), 98);
            x.restore();
            Edge.is(x.tell(0, -1), 100);
            Edge.is(x.judge(0, 0), 99);
            Edge.is(x.judge(0, 1), -1);
        });
        Edge.edge(13, "any number is told, be it no mark at all", x -> {
            Edge.town(x, "order;");
            int told = 0;
            for (int mark : new int[] {0, 1, -1, Integer.MIN_VALUE, Integer.MAX_VALUE, 1 << 20}) {
                told++;
                Edge.is(x.tell(0, mark), told);
            }
            Edge.is(x.judge(0, 0), 1);
        });
        Edge.edge(13, "no such work: nothing is told or refused", x -> {
            Edge.town(x, "order;");
            Edge.stays(x, () -> {
                Edge.noSuch(() -> x.tell(1, 0));
                for (int work : BEYOND) {
                    Edge.noSuch(() -> x.tell(work, 0));
                }
            });
            Edge.town(x, "");
            Edge.noSuch(() -> x.tell(0, 0));
        });
    }

    private static void judge() {
        Edge.edge(14, "what is 0 or 1; -1 and 2 are none", x -> {
            Edge.town(x, "order;");
            x.tell(0, 0);
            x.tell(0, 0);
            Edge.is(x.judge(0, 0), 1);
            Edge.is(x.judge(0, 1), 0);
            Edge.stays(x, () -> {
                Edge.noSuch(() -> x.judge(0, 2));
                for (int what : BEYOND) {
                    Edge.noSuch(() -> x.judge(0, what));
                }
                Edge.noSuch(() -> x.judge(1, 0));
                Edge.noSuch(() -> x.judge(-1, 0));
            });
        });
        Edge.edge(14, "of none told there is none, of one way none either", x -> {
            Edge.town(x, "order;");
            Edge.is(x.judge(0, 0), -1);
            Edge.is(x.judge(0, 1), -1);
            x.tell(0, 0);
            Edge.is(x.judge(0, 0), -1);
            Edge.is(x.judge(0, 1), -1);
        });
        Edge.edge(14, "the first told may be no way: 0, and the same as none", x -> {
            Edge.town(x, "order;");
            x.tell(0, 1);
            x.tell(0, 1);
            x.tell(0, 0);
            Edge.is(x.judge(0, 0), 0);
            Edge.is(x.judge(0, 1), -1);
        });
        Edge.edge(14, "no way ahead of one that is the same; the same ahead of no way", x -> {
            Edge.town(x, "order;act 1;act 2;order;act 1;act 2;");
            for (int mark : new int[] {1, 5, 1}) {
                x.tell(0, mark);
            }
            Edge.is(x.judge(0, 0), 1);
            Edge.is(x.judge(0, 1), -1);
            for (int mark : new int[] {1, 0, 0, 5}) {
                x.tell(1, mark);
            }
            Edge.is(x.judge(1, 0), 2);
            Edge.is(x.judge(1, 1), 1);
        });
        Edge.edge(14, "one that is the same as two ahead: the first of these", x -> {
            // marks 0 1 3 4 6 7: 3 is the same as 1 and 7, as 0 it is not
            Edge.town(x, "order same other 2;act 0;act 0;act 0;");
            for (int mark : new int[] {0, 7, 1, 3}) {
                x.tell(0, mark);
            }
            Edge.is(x.judge(0, 0), 2);
            Edge.is(x.judge(0, 1), 0);
            Edge.town(x, "order same other 2;act 0;act 0;act 0;");
            for (int mark : new int[] {4, 7, 1, 3, 3}) {
                x.tell(0, mark);
            }
            Edge.is(x.judge(0, 0), 3);
            Edge.is(x.judge(0, 1), 1);
        });
        Edge.edge(14, "a way that is spent is one", x -> {
            Edge.town(x, "order;act 1;act 2;");
            x.done(0, 0);
            x.done(0, 1);
            x.tell(0, 0);
            x.tell(0, 1);
            Edge.is(x.judge(0, 0), -1);
        });
        Edge.edge(14, "it answers of how it is told, not of its way", x -> {
            Edge.town(x, "set 1;part 3;part 2;part 1;");
            x.tell(0, 4);
            x.tell(0, 2);
            x.tell(0, 1);
            x.tell(0, 2);
            Edge.is(x.judge(0, 0), 3);
            Edge.is(x.judge(0, 1), 1);
        });
    }

    private static void judgeByLaws() {
        Edge.edge(14, "by ROW, STEPS and OTHER by just its NUMBER and by one fewer", x -> {
            String parts = ";part 1 free;part 2 free;part 3;";
            Edge.town(x, "set 1" + parts + "set 1 same steps" + parts + "set 1 same other 2" + parts + "set 1 same other 3" + parts);
            int[] due = {-1, 1, -1, 1};
            for (int work = 0; work < 4; work++) {
                x.tell(work, 2);
                x.tell(work, 1);
                Edge.is(x.judge(work, 0), due[work]);
                Edge.is(x.judge(work, 1), due[work] == 1 ? 0 : -1);
            }
            x.tell(1, 4);
            Edge.is(x.judge(1, 0), 1);
            x.tell(0, 2);
            Edge.is(x.judge(0, 0), 2);
            Edge.is(x.judge(0, 1), 0);
        });
        Edge.edge(14, "by STEPS what is not free keeps two apart", x -> {
            Edge.town(x, "set 1 same steps;part 1 free;part 2 free;part 3;");
            x.tell(0, 1);
            x.tell(0, 4);
            Edge.is(x.judge(0, 0), -1);
            x.tell(0, 2);
            Edge.is(x.judge(0, 0), 2);
            Edge.is(x.judge(0, 1), 0);
        });
    }

    private static void court() {
        Edge.edge(24, "with nothing done all are left by each law, also of no ways", x -> {
            Edge.town(x, "set 1;part 1 free;part 2 free;net 2;");
            for (int law = 0; law <= 2; law++) {
                Edge.is(x.court(0, law, 9), 2);
                Edge.is(x.court(1, law, 9), 0);
            }
        });
        Edge.edge(24, "by OTHER with the number by which two are other both are left, with one more one spends the other", x -> {
            for (int by = 2; by <= 9; by++) {
                StringBuilder rows = new StringBuilder("net " + by + ";step 0 " + (by - 1) + " 1;");
                for (int place = 0; place < by - 1; place++) {
                    rows.append("step ").append(place).append(' ').append(place + 1).append(" 1;");
                }
                Counted y = Edge.fresh(rows.toString());
                y.done(0, 1);
                for (int number = 1; number <= 9; number++) {
                    Edge.is(y.court(0, 2, number), number > by ? 0 : 1);
                }
                Edge.is(y.work(0, 5), 1);
            }
        });
        Edge.edge(24, "of the laws 0 and 1 any number counts for nothing", x -> {
            Edge.town(x, "set 1 same other 9;part 1 free;part 2 free;part 3;");
            x.done(0, 0);
            Edge.is(x.work(0, 5), 0);
            for (int number : new int[] {0, 1, 9, 10, -1, Integer.MIN_VALUE, Integer.MAX_VALUE}) {
                Edge.is(x.court(0, 0, number), 2);
                Edge.is(x.court(0, 1, number), 1);
            }
        });
        Edge.edge(24, "the book as it is: of its work alone, those that were done alone", x -> {
            Edge.town(x, "set 1 same other 9;part 1;part 2;set 1;part 1;part 2;");
            x.done(0, 0);
            Edge.is(x.court(0, 0, 0), 1);
            Edge.is(x.court(1, 0, 0), 2);
            Edge.is(x.court(1, 2, 9), 2);
            x.done(1, 0);
            x.done(1, 1);
            Edge.is(x.court(1, 0, 0), 0);
            Edge.is(x.court(0, 0, 0), 1);
        });
        Edge.edge(24, "one way that two of the book spend is lost once", x -> {
            // marks 0 1 3 4 6 7: 1 and 4 are other than 0 by 1; 3 and 6 than 7
            Edge.town(x, "order;act 0;act 0;act 0;");
            x.done(0, 0);
            x.done(0, 1);
            Edge.is(x.court(0, 2, 2), 2);
            Edge.is(x.court(0, 2, 1), 4);
        });
        Edge.edge(24, "of a full book, and nothing changes by it", x -> {
            Edge.town(x, Edge.times(4, MANY));
            x.drawn(100, 1000, 1, 0);
            Edge.is(x.count(2), 400);
            Edge.stays(x, () -> {
                Edge.is(x.court(3, 0, 0), 824);
                Edge.is(x.court(3, 1, 0), 824);
                Edge.is(x.court(3, 2, 2), 824);
                Edge.is(x.court(3, 2, 9), 0);
            });
        });
    }

    private static void courtWrong() {
        Edge.edge(24, "a law is 0 to 2; -1 and 3 throw", x -> {
            Edge.town(x, "order;act 1;act 2;");
            Edge.is(x.court(0, 0, 1), 2);
            Edge.is(x.court(0, 2, 1), 2);
            Edge.stays(x, () -> {
                Edge.illegal(() -> x.court(0, 3, 1));
                for (int law : BEYOND) {
                    Edge.illegal(() -> x.court(0, law, 1));
                }
            });
        });
        Edge.edge(24, "of the law 2 a number is 1 to 9; 0 and 10 throw", x -> {
            Edge.town(x, "order;act 1;act 2;");
            x.done(0, 0);
            Edge.is(x.court(0, 2, 1), 1);
            Edge.is(x.court(0, 2, 9), 0);
            Edge.stays(x, () -> {
                Edge.illegal(() -> x.court(0, 2, 0));
                Edge.illegal(() -> x.court(0, 2, 10));
                for (int number : BEYOND) {
                    Edge.illegal(() -> x.court(0, 2, number));
                }
            });
        });
        Edge.edge(24, "no such work, whatever law and number", x -> {
            Edge.town(x, "order;");
            Edge.noSuch(() -> x.court(1, 0, 0));
            Edge.noSuch(() -> x.court(1, 3, 0));
            Edge.noSuch(() -> x.court(-1, 2, 0));
        });
    }
}
