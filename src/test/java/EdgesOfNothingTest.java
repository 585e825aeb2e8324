/**
 * Works of nothing, at each promise that asks of ways: a set of no parts and number 0 and an order of no acts
 * have one way, of mark 0; a net without steps, a set of too few parts and an order in a circle have none.
 */
public final class EdgesOfNothingTest {
    /** Works 0 and 1 of one way, 2 to 4 of none, 5 of one way too. */
    private static final String TOWN = "set 0;order;net 2;set 1;order;act 1;act 2;ahead 0 1;ahead 1 0;set 0 same other 9;part 7;";
    private static final int[] ONE = {0, 1, 5};
    private static final int[] NONE = {2, 3, 4};

    private interface Body {
        void run(Counted x, int work);
    }

    public static void main(String[] args) {
        told();
        spent();
        chosen();
        inYears();
        drawn();
        Check.end();
    }

    /** A case of all works of one way, and one of all of none. */
    private static void both(int promise, String name, Body ofOne, Body ofNone) {
        Edge.edge(promise, name + ", where there is one way of mark 0", x -> {
            for (int work : ONE) {
                ofOne.run(Edge.fresh(TOWN), work);
            }
        });
        Edge.edge(promise, name + ", where there is no way", x -> {
            for (int work : NONE) {
                ofNone.run(Edge.fresh(TOWN), work);
            }
        });
    }

    private static void told() {
        both(6, "how many ways and how many left", (x, work) -> {
            Edge.is(x.work(work, 1), 1);
            Edge.is(x.work(work, 5), 1);
        }, (x, work) -> {
            Edge.is(x.work(work, 1), 0);
            Edge.is(x.work(work, 5), 0);
        });
        both(7, "way", (x, work) -> {
            for (int what = 0; what <= 3; what++) {
                Edge.is(x.way(work, 0, what), 0);
            }
            Edge.noSuch(() -> x.way(work, 1, 0));
        }, (x, work) -> Edge.noSuch(() -> x.way(work, 0, 0)));
        both(8, "find", (x, work) -> {
            Edge.is(x.find(work, 0), 0);
            Edge.is(x.find(work, 1), -1);
        }, (x, work) -> Edge.is(x.find(work, 0), -1));
        both(9, "same", (x, work) -> {
            Edge.is(x.same(work, 0, 0, 0), 0);
            Edge.is(x.same(work, 0, 0, 1), 1);
        }, (x, work) -> Edge.noSuch(() -> x.same(work, 0, 0, 0)));
        both(14, "judge", (x, work) -> {
            x.tell(work, 0);
            Edge.is(x.judge(work, 0), -1);
            x.tell(work, 0);
            Edge.is(x.judge(work, 0), 1);
            Edge.is(x.judge(work, 1), 0);
        }, (x, work) -> {
            Edge.is(x.judge(work, 0), -1);
            x.tell(work, 0);
            Edge.is(x.judge(work, 0), 0);
            Edge.is(x.judge(work, 1), -1);
        });
        both(25, "near", (x, work) -> {
            Edge.is(x.near(work, 0, 0), 0);
            Edge.is(x.near(work, 0, 1), 1);
        }, (x, work) -> Edge.noSuch(() -> x.near(work, 0, 1)));
    }

    private static void spent() {
        both(10, "done", (x, work) -> {
            Edge.is(x.done(work, 0), true);
            Edge.is(x.done(work, 0), false);
            Edge.is(x.count(4), 1);
        }, (x, work) -> {
            Edge.noSuch(() -> x.done(work, 0));
            Edge.is(x.count(4), 0);
        });
        both(11, "book", (x, work) -> {
            x.done(work, 0);
            Edge.is(x.book(0, 0), work);
            Edge.is(x.book(0, 1), 0);
        }, (x, work) -> Edge.noSuch(() -> x.book(0, 0)));
        both(12, "left", (x, work) -> {
            Edge.is(x.left(work, 0), 0);
            Edge.is(x.left(work, 1), -1);
            x.done(work, 0);
            Edge.is(x.left(work, 0), -1);
        }, (x, work) -> Edge.is(x.left(work, 0), -1));
        both(24, "court", (x, work) -> {
            for (int law = 0; law <= 2; law++) {
                Edge.is(x.court(work, law, 1), 1);
            }
            x.done(work, 0);
            for (int law = 0; law <= 2; law++) {
                Edge.is(x.court(work, law, 1), 0);
            }
        }, (x, work) -> Edge.is(x.court(work, 2, 9), 0));
    }

    private static void chosen() {
        both(15, "apart", (x, work) -> {
            int[] due = {1, 0, 1};
            for (int what = 0; what <= 2; what++) {
                Edge.is(x.apart(work, 0, what), due[what]);
                Edge.is(x.apart(work, 30, what), due[what]);
            }
        }, (x, work) -> {
            for (int what = 0; what <= 2; what++) {
                Edge.is(x.apart(work, 0, what), 0);
            }
        });
        Edge.edge(20, "joint, where both sets have one way of mark 0", x -> {
            Edge.town(x, TOWN);
            for (int what = 0; what <= 2; what++) {
                Edge.is(x.joint(0, 5, what), 0);
            }
            x.done(5, 0);
            Edge.is(x.joint(0, 5, 0), -1);
            Edge.is(x.joint(0, 5, 1), -1);
            Edge.is(x.joint(0, 5, 2), 0);
        });
        Edge.edge(20, "joint, where one of the sets has no way", x -> {
            Edge.town(x, TOWN);
            Edge.is(x.joint(0, 3, 0), -1);
            Edge.is(x.joint(3, 0, 1), -1);
            Edge.is(x.joint(5, 3, 2), 0);
        });
        both(22, "given", (x, work) -> {
            Edge.is(x.given(work, 3), 0);
            x.person(work, 5);
            int[] due = {5, 1, 0, 5};
            for (int what = 0; what <= 3; what++) {
                Edge.is(x.given(work, what), due[what]);
            }
        }, (x, work) -> {
            x.person(work, 5);
            int[] due = {0, 0, 5, 9999};
            for (int what = 0; what <= 3; what++) {
                Edge.is(x.given(work, what), due[what]);
            }
        });
        Edge.edge(23, "a step more, where there is no way", x -> {
            Edge.town(x, TOWN);
            Edge.is(x.more(2, 0), 0);
            Edge.is(x.more(2, 1), 1);
            Edge.is(x.more(2, 2), 1);
        });
    }

    private static void inYears() {
        both(17, "years", (x, work) -> {
            Edge.is(x.years(work, 1, 0), 0);
            Edge.is(x.years(work, 2, 0), -1);
            Edge.is(x.years(work, 1, 1), -1);
        }, (x, work) -> {
            Edge.is(x.years(work, 1, 0), -1);
            Edge.is(x.years(work, 1, 1), -1);
        });
        both(18, "lasts", (x, work) -> {
            Edge.is(x.lasts(work, 0), 1);
            Edge.is(x.lasts(work, 1), 0);
            Edge.is(x.lasts(work, 2), 0);
        }, (x, work) -> {
            Edge.is(x.lasts(work, 0), 0);
            Edge.is(x.lasts(work, 1), -1);
            Edge.is(x.lasts(work, 2), 0);
        });
        both(19, "chance", (x, work) -> Edge.is(x.chance(work, 1000, 100), 0), (x, work) -> Edge.is(x.chance(work, 1000, 100), 0));
    }

    private static void drawn() {
        Edge.edge(26, "drawn, where works have one way of mark 0 or none: three are done, three fail, then all", x -> {
            Edge.town(x, TOWN);
            x.image();
            Edge.is(x.drawn(1, 1000, 3, 0), 0);
            x.restore();
            Edge.is(x.drawn(1, 1000, 3, 1), 3);
            x.restore();
            Edge.is(x.drawn(1, 1000, 3, 2), 3);
            for (int i = 0; i < 3; i++) {
                Edge.is(x.book(i, 0), ONE[i]);
                Edge.is(x.book(i, 1), 0);
            }
            Edge.is(x.drawn(1, 1000, 3, 2), 6);
        });
        Edge.edge(28, "restore, where a work of one way is left again", x -> {
            Edge.town(x, TOWN);
            x.image();
            x.drawn(1, 1000, 3, 0);
            Edge.is(x.restore(), true);
            for (int work : ONE) {
                Edge.is(x.way(work, 0, 2), 0);
                Edge.is(x.work(work, 5), 1);
            }
        });
    }
}
