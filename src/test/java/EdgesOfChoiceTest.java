/** The boundary cases of promises 15, 20, 21, 22, 23 and 25: apart, joint, people, given, a step more, near. */
public final class EdgesOfChoiceTest {
    private static final int[] BEYOND = {-1, Integer.MIN_VALUE, Integer.MAX_VALUE};

    public static void main(String[] args) {
        apartNumbers();
        apartOfFourteen();
        apartChoice();
        joint();
        jointChoice();
        people();
        givenWithout();
        givenGain();
        prices();
        more();
        moreChoice();
        near();
        Check.end();
    }

    private static void apart(Counted x, int work, int number, int many, int cost, int bits) {
        Edge.is(x.apart(work, number, 0), many);
        Edge.is(x.apart(work, number, 1), cost);
        Edge.is(x.apart(work, number, 2), bits);
    }

    private static void apartNumbers() {
        Edge.edge(15, "a number is 0 to 30; -1 and 31 throw", x -> {
            Edge.town(x, "order;act 1;act 2;");
            apart(x, 0, 0, 2, 9, 3);
            apart(x, 0, 30, 1, 4, 1);
            Edge.stays(x, () -> {
                Edge.illegal(() -> x.apart(0, 31, 0));
                for (int number : BEYOND) {
                    Edge.illegal(() -> x.apart(0, number, 0));
                }
            });
        });
        Edge.edge(15, "what is 0 to 2; -1 and 3 are none, ahead of a wrong number", x -> {
            Edge.town(x, "order;act 1;act 2;");
            Edge.stays(x, () -> {
                Edge.noSuch(() -> x.apart(0, 0, 3));
                Edge.noSuch(() -> x.apart(0, 31, 3));
                for (int what : BEYOND) {
                    Edge.noSuch(() -> x.apart(0, 0, what));
                    Edge.noSuch(() -> x.apart(0, -1, what));
                }
                Edge.illegal(() -> x.apart(0, 31, 2));
            });
        });
        Edge.edge(15, "no such work, ahead of a wrong number", x -> {
            Edge.town(x, "order;");
            Edge.noSuch(() -> x.apart(1, 0, 0));
            Edge.noSuch(() -> x.apart(-1, 31, 0));
        });
        Edge.edge(15, "two that are other by just the number may be both, by one fewer not", x -> {
            for (int by = 2; by <= 12; by++) {
                StringBuilder rows = new StringBuilder("net " + by + ";step 0 " + (by - 1) + " 5;");
                for (int place = 0; place < by - 1; place++) {
                    rows.append("step ").append(place).append(' ').append(place + 1).append(" 1;");
                }
                Counted y = Edge.fresh(rows.toString());
                int chain = by - 1;
                for (int number = 0; number <= 30; number++) {
                    if (number <= by) {
                        apart(y, 0, number, 2, chain + 5, 3);
                    } else {
                        apart(y, 0, number, 1, Math.min(chain, 5), 1);
                    }
                }
            }
        });
        Edge.edge(15, "by 0 and by 1 all are other enough", x -> {
            Edge.town(x, "order;act 1;act 2;act 4;");
            apart(x, 0, 0, 6, 84, 63);
            apart(x, 0, 1, 6, 84, 63);
            Edge.is(x.apart(0, 2, 0) < 6, true);
        });
        Edge.edge(15, "the law counts for nothing but for what is left", x -> {
            Edge.town(x, "set 1 same other 9;part 1 free;part 2 free;set 1 same steps;part 1 free;part 2 free;");
            apart(x, 0, 2, 2, 3, 3);
            apart(x, 1, 2, 2, 3, 3);
        });
    }

    private static void apartOfFourteen() {
        for (int many = 13; many <= 16; many++) {
            int ways = many;
            Edge.edge(15, "of " + ways + " that are left at most 14 are looked at", x -> {
                Edge.town(x, "net 2;" + Edge.times(ways, "step 0 1 3;"));
                int due = Math.min(14, ways);
                apart(x, 0, 2, due, 3 * due, (1 << due) - 1);
                apart(x, 0, 3, 1, 3, 1);
            });
        }
        Edge.edge(15, "the 14th is among them, the 15th not, though it alone is other enough; spent ones make room", x -> {
            String chain = "step 0 1 9;step 1 2 9;step 2 3 9;";
            Edge.town(x, "net 4;" + Edge.times(14, "step 0 3 1;") + chain);
            apart(x, 0, 4, 1, 1, 1);
            x.done(0, 5);
            apart(x, 0, 4, 2, 28, 1 | 1 << 13);
            Edge.town(x, "net 4;" + Edge.times(13, "step 0 3 1;") + chain);
            apart(x, 0, 4, 2, 28, 1 | 1 << 13);
        });
        Edge.edge(15, "the bits are by their order among those left, not among all", x -> {
            Edge.town(x, "net 2;" + Edge.times(20, "step 0 1 1;"));
            for (int way = 0; way < 20; way += 2) {
                x.done(0, way);
            }
            apart(x, 0, 2, 10, 10, 1023);
            for (int way = 1; way < 17; way += 2) {
                x.done(0, way);
            }
            apart(x, 0, 2, 2, 2, 3);
        });
    }

    private static void apartChoice() {
        Edge.edge(15, "of none left none are chosen, of one that one, by any number", x -> {
            Edge.town(x, "net 2;set 1;part 7;");
            for (int number = 0; number <= 30; number += 15) {
                apart(x, 0, number, 0, 0, 0);
                apart(x, 1, number, 1, 7, 1);
            }
            x.done(1, 0);
            apart(x, 1, 0, 0, 0, 0);
        });
        Edge.edge(15, "more of them ahead of a lesser cost", x -> {
            // 5 (0 and 2) 2, 6 (1 and 2) 3, 9 (0 and 3) 11, 10 (1 and 3) 12: only the middle and the outer ones are apart
            Edge.town(x, "net 3;step 0 1 1;step 0 1 2;step 1 2 1;step 1 2 10;");
            apart(x, 0, 3, 2, 14, 6);
            apart(x, 0, 4, 2, 14, 6);
            apart(x, 0, 5, 1, 2, 1);
        });
        Edge.edge(15, "of like many the least cost, though its bits are greater", x -> {
            // 0 3 (0), 0 1 3 (2), 0 2 3 (3), 0 1 2 3 (3): the first and the last are apart, and the two between them
            Edge.town(x, "net 4;step 0 3 0;step 0 1 1;step 1 3 1;step 0 2 1;step 2 3 2;step 1 2 0;");
            apart(x, 0, 4, 2, 3, 9);
            // the step from 1 to 2 dearer by 2: both pairs cost 5; by 3: 6 and 5
            Edge.town(x, "net 4;step 0 3 0;step 0 1 1;step 1 3 1;step 0 2 1;step 2 3 2;step 1 2 2;");
            apart(x, 0, 4, 2, 5, 6);
            Edge.town(x, "net 4;step 0 3 0;step 0 1 1;step 1 3 1;step 0 2 1;step 2 3 2;step 1 2 3;");
            apart(x, 0, 4, 2, 5, 6);
        });
        Edge.edge(15, "of like many and like cost those that are the least as bits", x -> {
            Edge.town(x, "net 3;step 0 1 1;step 0 1 1;step 1 2 1;step 1 2 1;");
            apart(x, 0, 4, 2, 4, 6);
            Edge.town(x, "set 1;" + Edge.times(5, "part 4;"));
            apart(x, 0, 3, 1, 4, 1);
            // of two parts of four each two that have none in common cost 6
            Edge.town(x, "set 2;part 0;part 1;part 2;part 3;");
            apart(x, 0, 4, 2, 6, 12);
        });
    }

    private static void joint(Counted x, int one, int two, int mark, int cost, int saves) {
        Edge.is(x.joint(one, two, 0), mark);
        Edge.is(x.joint(one, two, 1), cost);
        Edge.is(x.joint(one, two, 2), saves);
    }

    private static void joint() {
        Edge.edge(20, "what is 0 to 2; -1 and 3 are none", x -> {
            Edge.town(x, "set 1;part 2;set 1;part 3;");
            joint(x, 0, 1, 1, 3, 2);
            Edge.stays(x, () -> {
                Edge.noSuch(() -> x.joint(0, 1, 3));
                for (int what : BEYOND) {
                    Edge.noSuch(() -> x.joint(0, 1, what));
                }
            });
        });
        Edge.edge(20, "both must be sets, and not the same one", x -> {
            Edge.town(x, "set 1;part 2;order;act 1;net 2;step 0 1 1;set 1;part 3;");
            Edge.stays(x, () -> {
                Edge.noSuch(() -> x.joint(0, 0, 0));
                Edge.noSuch(() -> x.joint(1, 1, 0));
                Edge.noSuch(() -> x.joint(0, 1, 0));
                Edge.noSuch(() -> x.joint(1, 0, 0));
                Edge.noSuch(() -> x.joint(0, 2, 0));
                Edge.noSuch(() -> x.joint(2, 0, 0));
                Edge.noSuch(() -> x.joint(1, 2, 0));
            });
            joint(x, 0, 3, 1, 3, 2);
            joint(x, 3, 0, 1, 3, 2);
        });
        Edge.edge(20, "no such work, the one or the other", x -> {
            Edge.town(x, "set 0;set 0;");
            joint(x, 0, 1, 0, 0, 0);
            Edge.noSuch(() -> x.joint(0, 2, 0));
            Edge.noSuch(() -> x.joint(2, 0, 0));
            Edge.noSuch(() -> x.joint(2, 2, 0));
            for (int work : BEYOND) {
                Edge.noSuch(() -> x.joint(0, work, 0));
                Edge.noSuch(() -> x.joint(work, 0, 0));
            }
        });
        Edge.edge(20, "there is none: NONE, NONE and 0", x -> {
            Edge.town(x, "set 1;part 1;part 1;set 2;part 1;part 1;set 3;part 1;set 1;");
            joint(x, 0, 1, -1, -1, 0);
            joint(x, 0, 2, -1, -1, 0);
            joint(x, 2, 3, -1, -1, 0);
            joint(x, 3, 0, -1, -1, 0);
        });
        Edge.edge(20, "a choice of no parts is one, of cost 0", x -> {
            Edge.town(x, "set 0;set 0;part 5;part 6;");
            joint(x, 0, 1, 0, 0, 0);
            joint(x, 1, 0, 0, 0, 0);
            x.done(1, 0);
            joint(x, 0, 1, -1, -1, 0);
        });
    }

    private static void jointChoice() {
        Edge.edge(20, "of the parts that both have: the last of the lesser one, none beyond", x -> {
            Edge.town(x, "set 1;part 9;part 9;part 9;part 0;set 1;part 9;part 9;part 8;set 1;" + Edge.times(11, "part 5;")
                    + "part 1;set 1;" + Edge.times(11, "part 5;") + "part 2;");
            joint(x, 0, 1, 1, 9, 0 + 8 - 9);
            joint(x, 1, 0, 1, 9, -1);
            joint(x, 2, 3, 2048, 2, 1 + 2 - 2);
            Edge.town(x, "set 1;part 9;part 9;part 8;part 0;set 1;part 9;part 9;part 8;");
            joint(x, 0, 1, 4, 8, 0);
        });
        Edge.edge(20, "a way of both, by the BOTH and NEEDS of each", x -> {
            Edge.town(x, "set 2;part 1;part 1;part 5;both 0 1;set 2;part 1;part 1;part 5;needs 0 1;set 2;part 1;part 1;part 5;");
            joint(x, 0, 1, 6, 6, 6 + 2 - 6);
            joint(x, 0, 2, 5, 6, 6 + 2 - 6);
            joint(x, 1, 2, 3, 2, 2);
        });
        Edge.edge(20, "it must be left in both: spent in the one, in the other, or the same as one spent", x -> {
            String parts = ";part 1;part 2;part 3;";
            Edge.town(x, "set 1" + parts + "set 1" + parts + "set 1 same other 9" + parts);
            x.done(0, 0);
            joint(x, 0, 1, 2, 2, 2 + 1 - 2);
            joint(x, 1, 0, 2, 2, 1);
            x.done(1, 1);
            joint(x, 0, 1, 4, 3, 2 + 1 - 3);
            joint(x, 0, 2, 2, 2, 2 + 1 - 2);
            x.done(1, 2);
            joint(x, 0, 1, -1, -1, 0);
            x.done(2, 0);
            joint(x, 0, 2, -1, -1, 0);
        });
        Edge.edge(20, "of each part the greater cost of both; the cheapest by these", x -> {
            Edge.town(x, "set 1;part 1;part 5;part 4;set 1;part 9;part 5;part 6;");
            joint(x, 0, 1, 2, 5, 1 + 5 - 5);
            Edge.town(x, "set 2;part 1;part 5;part 4;set 2;part 9;part 5;part 6;");
            joint(x, 0, 1, 6, 11, 5 + 11 - 11);
        });
        Edge.edge(20, "of like cost the least mark, though it is the dearer way of one", x -> {
            Edge.town(x, "set 1;part 5;part 1;part 5;set 1;part 1;part 5;part 5;");
            joint(x, 0, 1, 1, 5, 1 + 1 - 5);
            joint(x, 1, 0, 1, 5, -3);
            x.done(0, 1);
            joint(x, 0, 1, 2, 5, 1 + 1 - 5);
        });
        Edge.edge(20, "what it saves is more, nothing, or less than nothing", x -> {
            Edge.town(x, "set 1;part 3;part 9;set 1;part 3;part 9;set 1;part 9;part 0;set 1;part 3;part 3;set 1;part 0;part 3;");
            joint(x, 0, 1, 1, 3, 3);
            joint(x, 0, 2, 1, 9, 3 + 0 - 9);
            joint(x, 3, 4, 1, 3, 0);
        });
    }

    private static void people() {
        Edge.edge(21, "one gives 0 to 9999; -1 and 10000 are refused; all else stays", x -> {
            Edge.town(x, "set 1;part 0;");
            Edge.is(x.person(0, 0), 1);
            Edge.is(x.person(0, 9999), 2);
            Edge.is(x.given(0, 0), 9999);
            Edge.is(x.count(6), 0);
            Edge.staysBut(x, 6, 4, () -> {
                Edge.is(x.person(0, 10000), -1);
                for (int gives : BEYOND) {
                    Edge.is(x.person(0, gives), -1);
                }
            });
            Edge.is(x.person(0, 1), 3);
        });
        Edge.edge(21, "the 12th of a work is taken, the 13th refused; another work has room; all else stays", x -> {
            Edge.town(x, "net 2;" + Edge.times(14, "step 0 1 0;") + "net 2;step 0 1 0;");
            for (int i = 1; i <= 11; i++) {
                Edge.is(x.person(0, 10), i);
            }
            Edge.is(x.person(0, 7), 12);
            Edge.is(x.given(0, 0), 117);
            Edge.staysBut(x, 6, 2, () -> {
                Edge.is(x.person(0, 9999), -1);
                Edge.is(x.person(0, 10000), -1);
            });
            Edge.is(x.work(0, 9), 12);
            Edge.is(x.given(0, 0), 117);
            Edge.is(x.given(0, 1), 12);
            Edge.is(x.work(1, 9), 0);
            Edge.is(x.person(1, 5), 1);
            Edge.is(x.given(1, 0), 5);
        });
        Edge.edge(21, "six works have 12 each", x -> {
            Edge.town(x, Edge.times(6, "set 1;part 0;"));
            for (int i = 1; i <= 12; i++) {
                for (int work = 0; work < 6; work++) {
                    Edge.is(x.person(work, 100 * work + i), i);
                }
            }
            for (int work = 0; work < 6; work++) {
                Edge.is(x.person(work, 1), -1);
                Edge.is(x.work(work, 9), 12);
                Edge.is(x.given(work, 0), 100 * work + 12);
            }
            Edge.is(x.count(6), 6);
        });
        Edge.edge(21, "no such work: nobody is taken or refused, whatever is given", x -> {
            Edge.town(x, "order;");
            Edge.stays(x, () -> {
                Edge.noSuch(() -> x.person(1, 1));
                Edge.noSuch(() -> x.person(1, -1));
                for (int work : BEYOND) {
                    Edge.noSuch(() -> x.person(work, 10000));
                }
            });
        });
    }

    private static void given(Counted x, int work, int gain, int many, int least, int greatest) {
        Edge.is(x.given(work, 0), gain);
        Edge.is(x.given(work, 1), many);
        Edge.is(x.given(work, 2), least);
        Edge.is(x.given(work, 3), greatest);
    }

    private static void givenWithout() {
        Edge.edge(22, "what is 0 to 3; -1 and 4 are none; no such work", x -> {
            Edge.town(x, "set 1;part 3;part 8;");
            x.person(0, 5);
            given(x, 0, 2, 1, 3, 5);
            Edge.stays(x, () -> {
                Edge.noSuch(() -> x.given(0, 4));
                for (int what : BEYOND) {
                    Edge.noSuch(() -> x.given(0, what));
                    Edge.noSuch(() -> x.given(what, 0));
                }
                Edge.noSuch(() -> x.given(1, 0));
            });
        });
        Edge.edge(22, "without people and without ways the price is 0 to 9999", x -> {
            Edge.town(x, "net 2;order;");
            given(x, 0, 0, 0, 0, 9999);
            x.done(1, 0);
            given(x, 1, 0, 0, 0, 9999);
        });
        Edge.edge(22, "without people the greatest is the cost of the cheapest left, the least 0", x -> {
            Edge.town(x, "set 1;part 3;part 8;");
            given(x, 0, 0, 0, 0, 3);
            x.done(0, 0);
            given(x, 0, 0, 0, 0, 8);
        });
        Edge.edge(22, "without ways the least is what the first would give, the greatest 9999", x -> {
            Edge.town(x, "net 2;");
            x.person(0, 0);
            given(x, 0, 0, 0, 0, 9999);
            x.person(0, 70);
            x.person(0, 60);
            given(x, 0, 0, 0, 70, 9999);
            x.person(0, 9999);
            given(x, 0, 0, 0, 9999, 9999);
        });
        Edge.edge(22, "all people get one and all ways are taken: of both prices one thing there is", x -> {
            Edge.town(x, "set 1;part 3;part 8;");
            x.person(0, 9);
            x.person(0, 20);
            given(x, 0, 20 - 3 + 9 - 8, 2, 8, 9);
        });
        Edge.edge(22, "a cost may be above 9999", x -> {
            Edge.town(x, "order;" + Edge.times(6, "act 999;"));
            given(x, 0, 0, 0, 0, 20979);
            x.person(0, 9999);
            given(x, 0, 0, 0, 9999, 20979);
        });
    }

    private static void givenGain() {
        Edge.edge(22, "one who would give just the cost gets none, of one more gets one", x -> {
            Edge.town(x, "set 1;part 5;");
            x.person(0, 5);
            given(x, 0, 0, 0, 5, 5);
            Edge.town(x, "set 1;part 5;");
            x.person(0, 6);
            given(x, 0, 1, 1, 5, 6);
            Edge.town(x, "set 1;part 5;");
            x.person(0, 4);
            given(x, 0, 0, 0, 4, 5);
        });
        Edge.edge(22, "the second who would give just the cost gets none", x -> {
            Edge.town(x, "set 1;part 5;part 7;");
            x.person(0, 9);
            x.person(0, 7);
            given(x, 0, 4, 1, 7, 7);
            x.person(0, 8);
            given(x, 0, 5, 2, 7, 8);
        });
        Edge.edge(22, "nothing for a cost of nothing", x -> {
            Edge.town(x, "set 1;part 0;part 0;");
            x.person(0, 0);
            given(x, 0, 0, 0, 0, 0);
            x.person(0, 1);
            given(x, 0, 1, 1, 0, 0);
        });
        Edge.edge(22, "those who would give most get one first, in whatever order they came", x -> {
            for (int turn = 0; turn < 6; turn++) {
                int[][] orders = {{2, 5, 9}, {2, 9, 5}, {5, 2, 9}, {5, 9, 2}, {9, 2, 5}, {9, 5, 2}};
                Counted y = Edge.fresh("set 1;part 1;part 4;");
                for (int gives : orders[turn]) {
                    y.person(0, gives);
                }
                given(y, 0, 8 + 1, 2, 4, 5);
            }
        });
        Edge.edge(22, "twelve people, of whom as many get one as there are ways", x -> {
            Edge.town(x, "net 2;" + Edge.times(12, "step 0 1 0;"));
            for (int i = 1; i <= 12; i++) {
                x.person(0, i);
            }
            given(x, 0, 78, 12, 0, 1);
            x.done(0, 0);
            given(x, 0, 77, 11, 1, 2);
        });
        Edge.edge(22, "ways that are left now, though they are all the same; none that are spent", x -> {
            Edge.town(x, "set 1 same other 9;part 1;part 2;part 3;");
            for (int i = 0; i < 3; i++) {
                x.person(0, 10);
            }
            given(x, 0, 24, 3, 3, 10);
            x.done(0, 2);
            given(x, 0, 0, 0, 10, 9999);
            Edge.town(x, "set 1;part 1;part 2;part 3;");
            for (int i = 0; i < 3; i++) {
                x.person(0, 10);
            }
            x.done(0, 0);
            given(x, 0, 15, 2, 10, 10);
        });
        Edge.edge(22, "the most that can be given", x -> {
            Edge.town(x, "net 2;" + Edge.times(12, "step 0 1 0;"));
            for (int i = 0; i < 12; i++) {
                x.person(0, 9999);
            }
            given(x, 0, 12 * 9999, 12, 0, 9999);
        });
    }

    private static void prices() {
        Edge.edge(22, "the least price: the cost of the dearest taken, or what the first without would give", x -> {
            Edge.town(x, "set 1;part 5;part 50;");
            x.person(0, 30);
            given(x, 0, 25, 1, 5, 30);
            x.person(0, 4);
            given(x, 0, 25, 1, 5, 30);
            x.person(0, 6);
            given(x, 0, 25, 1, 6, 30);
            x.person(0, 30);
            given(x, 0, 25, 1, 30, 30);
        });
        Edge.edge(22, "the greatest price: what the last one who gets one would give, or the cost of the cheapest not taken", x -> {
            Edge.town(x, "set 1;part 5;part 50;");
            x.person(0, 49);
            given(x, 0, 44, 1, 5, 49);
            Edge.town(x, "set 1;part 5;part 50;");
            x.person(0, 50);
            given(x, 0, 45, 1, 5, 50);
            x.person(0, 51);
            given(x, 0, 46, 1, 50, 50);
            Edge.town(x, "set 1;part 5;part 50;");
            x.person(0, 999);
            given(x, 0, 994, 1, 5, 50);
        });
    }

    private static void more(Counted x, int work, int from, int to, int ways) {
        Edge.is(x.more(work, 0), from);
        Edge.is(x.more(work, 1), to);
        Edge.is(x.more(work, 2), ways);
    }

    private static void more() {
        Edge.edge(23, "what is 0 to 2; -1 and 3 are none", x -> {
            Edge.town(x, "net 2;");
            more(x, 0, 0, 1, 1);
            Edge.stays(x, () -> {
                Edge.noSuch(() -> x.more(0, 3));
                for (int what : BEYOND) {
                    Edge.noSuch(() -> x.more(0, what));
                }
            });
        });
        Edge.edge(23, "only of a net", x -> {
            Edge.town(x, "set 1;part 1;order;act 1;net 2;");
            Edge.noSuch(() -> x.more(0, 0));
            Edge.noSuch(() -> x.more(1, 0));
            more(x, 2, 0, 1, 1);
            Edge.noSuch(() -> x.more(3, 0));
            Edge.noSuch(() -> x.more(-1, 0));
        });
        Edge.edge(23, "of two places and of twelve without a step: from the first to the last", x -> {
            Edge.town(x, "net 2;net 12;net 3;");
            more(x, 0, 0, 1, 1);
            more(x, 1, 0, 11, 1);
            more(x, 2, 0, 2, 1);
        });
        Edge.edge(23, "beside one that there is, and a 21st one", x -> {
            Edge.town(x, "net 2;step 0 1 5;net 2;" + Edge.times(20, "step 0 1 1;"));
            more(x, 0, 0, 1, 2);
            more(x, 1, 0, 1, 21);
            Edge.is(x.work(1, 4), 20);
            Edge.is(x.work(1, 1), 20);
        });
    }

    private static void moreChoice() {
        Edge.edge(23, "of like many ways the least FROM, then the least TO", x -> {
            // 0 to 1, 0 to 2, 0 to 3 and the like each make two
            Edge.town(x, "net 4;step 0 1 1;step 1 2 1;step 2 3 1;net 4;step 1 3 1;step 2 3 1;net 4;step 0 1 1;step 0 2 1;");
            more(x, 0, 0, 1, 2);
            more(x, 1, 0, 1, 1);
            more(x, 2, 0, 3, 1);
        });
        Edge.edge(23, "most ways, though FROM is greater, or TO", x -> {
            Edge.town(x, "net 4;step 0 1 1;step 0 1 1;step 2 3 1;step 2 3 1;step 2 3 1;"
                    + "net 4;step 0 2 1;step 0 2 1;step 0 2 1;"
                    + "net 4;step 2 3 1;step 2 3 1;");
            more(x, 0, 1, 2, 6);
            more(x, 1, 2, 3, 3);
            more(x, 2, 0, 2, 2);
        });
        Edge.edge(23, "ways that are spent count too, and nothing changes by it", x -> {
            Edge.town(x, "net 3 same other 9;step 0 1 1;step 0 1 1;step 1 2 1;");
            x.done(0, 0);
            Edge.is(x.work(0, 5), 0);
            Edge.stays(x, () -> more(x, 0, 1, 2, 4));
        });
        Edge.edge(23, "the last place and the first one at its ends", x -> {
            Edge.town(x, "net 12;step 0 10 1;step 0 10 1;step 10 11 1;net 12;step 0 1 1;step 1 11 1;step 1 11 1;");
            more(x, 0, 10, 11, 4);
            more(x, 1, 0, 1, 4);
        });
    }

    private static void near() {
        Edge.edge(25, "a number is 0 to 30; -1 and 31 throw", x -> {
            Edge.town(x, "order;act 1;act 2;");
            Edge.is(x.near(0, 0, 0), 0);
            Edge.is(x.near(0, 0, 30), 2);
            Edge.stays(x, () -> {
                Edge.illegal(() -> x.near(0, 0, 31));
                for (int number : BEYOND) {
                    Edge.illegal(() -> x.near(0, 0, number));
                }
            });
        });
        Edge.edge(25, "by 0 none, by 1 itself alone", x -> {
            Edge.town(x, "order;act 0;act 0;act 0;");
            for (int way = 0; way < 6; way++) {
                Edge.is(x.near(0, way, 0), 0);
                Edge.is(x.near(0, way, 1), 1);
                Edge.is(x.near(0, way, 4), 6);
            }
            // each turns one of its couples of neighbours: two ways
            Edge.is(x.near(0, 0, 2), 3);
            Edge.is(x.near(0, 0, 3), 5);
        });
        Edge.edge(25, "one that is other by just the number is not counted, by one more it is", x -> {
            for (int by = 2; by <= 12; by++) {
                StringBuilder rows = new StringBuilder("net " + by + ";step 0 " + (by - 1) + " 5;");
                for (int place = 0; place < by - 1; place++) {
                    rows.append("step ").append(place).append(' ').append(place + 1).append(" 1;");
                }
                Counted y = Edge.fresh(rows.toString());
                for (int number = 1; number <= 30; number++) {
                    Edge.is(y.near(0, number % 2, number), number > by ? 2 : 1);
                }
            }
        });
        Edge.edge(25, "spent ways are counted, of spent ones it is asked, the law counts for nothing", x -> {
            Edge.town(x, "set 1 same other 9;part 1;part 2;part 3;");
            x.done(0, 0);
            Edge.is(x.near(0, 0, 2), 1);
            Edge.is(x.near(0, 1, 3), 3);
        });
        Edge.edge(25, "no such work and way, ahead of a wrong number", x -> {
            Edge.town(x, "order;act 1;net 2;");
            Edge.noSuch(() -> x.near(2, 0, 1));
            Edge.noSuch(() -> x.near(0, 1, 1));
            Edge.noSuch(() -> x.near(1, 0, 1));
            Edge.noSuch(() -> x.near(2, 0, 31));
            Edge.noSuch(() -> x.near(0, 1, -1));
            Edge.noSuch(() -> x.near(0, -1, 31));
            Edge.noSuch(() -> x.near(-1, 0, 31));
        });
        Edge.edge(25, "of the most ways a number of 30 has them all", x -> {
            Edge.town(x, "set 6;" + Edge.times(12, "part 1;"));
            Edge.is(x.near(0, 0, 30), 924);
            // only the other six parts are other by 12
            Edge.is(x.near(0, 0, 12), 923);
            Edge.is(x.near(0, 0, 13), 924);
            Edge.is(x.near(0, 0, 2), 1);
            Edge.is(x.near(0, 0, 3), 37);
        });
    }
}
