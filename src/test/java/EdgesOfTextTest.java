/** The boundary cases of promises 2, 3 and 4 and of the first of the terms: the tape, texts, tokens, faults. */
public final class EdgesOfTextTest {
    private static final String[] WORDS = {"net", "set", "order", "same", "steps", "other", "step", "part", "act",
        "free", "both", "needs", "ahead"};
    private static final String STEP = "step0 1 1;";
    private static final String PART = "part1;";
    private static final String ACT = "act1;";

    public static void main(String[] args) {
        feeding();
        whichBytes();
        refusedTowns();
        afterFaults();
        afterTowns();
        lengths();
        tokens();
        numbers();
        works();
        places();
        costs();
        bonds();
        laws();
        tooMany();
        misplaced();
        ends();
        firstAndLeast();
        faultPlaces();
        Check.end();
    }

    private static final int BLANKS = 0x20202020;

    private static int feedBlanks(Counted x) {
        return x.feed(BLANKS, BLANKS, BLANKS, BLANKS, BLANKS);
    }

    private static void feeding() {
        Edge.edge(2, "of a new object's tape the first twenty bytes are all it has", x -> {
            Edge.is(x.count(1), 0);
            Edge.is(feedBlanks(x), 20);
            Edge.is(x.count(1), 20);
        });
        Edge.edge(2, "twenty that make 700 come; none come that would make more", x -> {
            for (int i = 1; i <= 34; i++) {
                Edge.is(feedBlanks(x), 20 * i);
            }
            Edge.is(feedBlanks(x), 700);
            Edge.is(x.feed(1, 2, 3, 4, 5), -1);
            Edge.is(x.feed(1, 2, 3, 4, 5), -1);
            Edge.is(x.count(1), 700);
            Edge.is(x.town(700), 0);
        });
        Edge.edge(2, "a refusal leaves the bytes of the tape as they were", x -> {
            Edge.feed(x, Edge.padded("order;act 1;", 699) + "x");
            Edge.stays(x, () -> Edge.is(feedBlanks(x), -1));
            Edge.is(x.town(700), 1);
            Edge.is(x.fault(), 699);
        });
        Edge.edge(2, "a refusal is none of STATUS", x -> {
            Edge.feed(x, Edge.padded("", 700));
            Edge.is(feedBlanks(x), -1);
            for (int what = 3; what <= 6; what++) {
                Edge.is(x.count(what), 0);
            }
        });
        Edge.edge(2, "behind a town the full tape has room again", x -> {
            Edge.feed(x, Edge.padded("", 700));
            Edge.is(feedBlanks(x), -1);
            Edge.is(x.town(0), 0);
            Edge.is(feedBlanks(x), 20);
        });
    }

    private static void whichBytes() {
        Edge.edge(2, "of each number the highest byte comes first, the first number ahead of the fifth", x -> {
            Edge.is(x.feed(0x73657420, 0x313b7061, 0x72742035, 0x3b706172, 0x7420333b), 20);
            Edge.is(x.town(20), 0);
            Edge.is(x.way(0, 1, 0), 5);
        });
        Edge.edge(2, "they come behind those that are there", x -> {
            Edge.feed(x, Edge.padded("order;act", 20));
            Edge.is(x.feed(0x20373b20, BLANKS, BLANKS, BLANKS, BLANKS), 40);
            Edge.is(x.town(40), 0);
            Edge.is(x.way(0, 0, 0), 7);
        });
        Edge.edge(2, "each of the twenty bytes comes, whatever its highest bit", x -> {
            for (int i = 0; i < 20; i++) {
                int[] five = {BLANKS, BLANKS, BLANKS, BLANKS, BLANKS};
                five[i / 4] = five[i / 4] & ~(255 << 24 - i % 4 * 8) | 0xe9 << 24 - i % 4 * 8;
                Edge.is(x.feed(five[0], five[1], five[2], five[3], five[4]), 20);
                Edge.is(x.town(20), 1);
                Edge.is(x.fault(), i);
            }
        });
        Edge.edge(2, "the least and the greatest number come as any other", x -> {
            Edge.is(x.feed(Integer.MIN_VALUE, Integer.MAX_VALUE, -1, 0, 1), 20);
            Edge.is(x.town(20), 1);
            Edge.is(x.fault(), 0);
        });
    }

    private static final String RICH = "set 1;part 4;part 1;order same other 2;act 0;act 0;act 0;";

    /** A town with something of all that a call can change. */
    private static void rich(Counted x) {
        Edge.town(x, RICH);
        x.done(0, 1);
        x.done(1, 0);
        x.tell(0, 1);
        x.tell(0, 1);
        x.person(0, 30);
        x.person(1, 40);
        x.weight(0, 5);
        x.weight(1, 7);
    }

    private static void refusedTowns() {
        int[] wrong = {-1, Integer.MIN_VALUE, 21, Integer.MAX_VALUE};
        Edge.edge(3, "n below 0, or one more than the tape has, throws, and nothing changes", x -> {
            rich(x);
            Edge.feed(x, Edge.padded("order;act 9;", 20));
            Edge.stays(x, () -> {
                for (int n : wrong) {
                    Edge.illegal(() -> x.town(n));
                }
            });
            Edge.is(x.town(20), 0);
            Edge.is(x.way(0, 0, 0), 9);
        });
        Edge.edge(3, "what throws leaves the image, the latest fault and the STATUS", x -> {
            rich(x);
            Edge.is(x.town(0), 0);
            Edge.feed(x, Edge.padded("order;!", 20));
            Edge.is(x.town(20), 1);
            x.image();
            Edge.illegal(() -> x.town(1));
            Edge.is(x.fault(), 6);
            Edge.is(x.count(3), 1);
            Edge.is(x.restore(), true);
        });
        Edge.edge(3, "of an empty tape 0 bytes are a town of no works, 1 throws", x -> {
            Edge.illegal(() -> x.town(1));
            Edge.is(x.town(0), 0);
            Edge.is(x.count(0), 0);
            Edge.illegal(() -> x.town(1));
        });
        Edge.edge(3, "0 bytes of a tape that has some are a town of no works, and the tape is empty then", x -> {
            Edge.town(x, "order;");
            Edge.feed(x, Edge.padded("!", 20));
            Edge.is(x.town(0), 0);
            Edge.is(x.count(0), 0);
            Edge.is(x.count(1), 0);
            Edge.noSuch(() -> x.work(0, 0));
        });
        Edge.edge(3, "all bytes of the tape are a town", x -> {
            Edge.feed(x, "set 1;part 5;part 3;");
            Edge.illegal(() -> x.town(21));
            Edge.is(x.town(20), 0);
            Edge.is(x.count(1), 0);
            Edge.is(x.work(0, 1), 2);
        });
        Edge.edge(3, "bytes behind the first n count for nothing and are gone", x -> {
            Edge.feed(x, "order;order;!!!!!!!!");
            Edge.is(x.town(6), 0);
            Edge.is(x.count(0), 1);
            Edge.is(x.count(1), 0);
            Edge.illegal(() -> x.town(1));
        });
        Edge.edge(3, "a token is cut at n", x -> {
            Edge.feed(x, Edge.padded("order;act 123;", 20));
            Edge.is(x.town(12), 1);
            Edge.is(x.fault(), 12);
            Edge.feed(x, Edge.padded("orders", 20));
            Edge.is(x.town(5), 1);
            Edge.is(x.fault(), 5);
            Edge.feed(x, Edge.padded("order;order;", 20));
            Edge.is(x.town(8), 1);
            Edge.is(x.fault(), 6);
            Edge.feed(x, Edge.padded("net 12;", 20));
            Edge.is(x.town(5), 2);
            Edge.is(x.fault(), 4);
            Edge.feed(x, Edge.padded("set 12345;", 20));
            Edge.is(x.town(8), 2);
            Edge.is(x.fault(), 4);
            Edge.feed(x, Edge.padded("set 12345;", 20));
            Edge.is(x.town(6), 1);
            Edge.is(x.fault(), 6);
        });
    }

    private static void afterFaults() {
        String[] faulty = {"x", "net 5 same other 4;step 0 1 9;set 3;part 1 free;part 2 free;part 3 free;both 0 1;!",
            "set 0;part 1;set 0;order;act 7;act 8;ahead 0 1;order same steps;act 3 free;act 1000;",
            Edge.times(7, "order;")};
        for (String text : faulty) {
            Edge.edge(3, "a fault leaves all but the tape, the fault and STATUS 0: " + text, x -> {
                rich(x);
                String before = x.look(3);
                Edge.feed(x, text);
                Edge.is(x.town(text.length()) > 0, true);
                String told = "fault " + x.fault();
                Edge.is(x.look(3).replace(told, "fault -1"), before);
                Edge.is(x.count(1), 0);
                Edge.is(x.count(3), 1);
            });
        }
        Edge.edge(3, "a fault leaves the image", x -> {
            rich(x);
            x.image();
            x.done(0, 0);
            Edge.feed(x, Edge.padded("x", 20));
            Edge.is(x.town(1), 1);
            Edge.is(x.count(2), 3);
            Edge.is(x.restore(), true);
            Edge.is(x.count(2), 2);
            Edge.is(x.count(3), 0);
        });
        Edge.edge(3, "a fault leaves the weights of all hundred years", x -> {
            Edge.town(x, "net 2;" + Edge.times(5, "step 0 1 1;") + "order;" + Edge.times(5, "act 1;"));
            x.weight(99, 7);
            x.weight(0, 3);
            Edge.feed(x, Edge.padded("x", 20));
            Edge.is(x.town(20), 1);
            Edge.is(x.years(1, 99, 0), 15 * (98 + 3));
            Edge.is(x.years(1, 100, 0), 15 * (98 + 3 + 7));
        });
        Edge.edge(3, "each text with a fault is one more of STATUS 0", x -> {
            for (int i = 1; i <= 5; i++) {
                Edge.feed(x, Edge.padded("x", 20));
                Edge.is(x.town(20), 1);
                Edge.is(x.count(3), i);
            }
            Edge.is(x.town(0), 0);
            Edge.is(x.count(3), 5);
        });
        Edge.edge(3, "on a new object a fault leaves no works", x -> {
            Edge.feed(x, Edge.padded("order;act 1;order;z", 20));
            Edge.is(x.town(20), 1);
            Edge.is(x.count(0), 0);
            Edge.noSuch(() -> x.work(0, 0));
        });
    }

    private static void afterTowns() {
        Edge.edge(3, "behind a town THE BOOK, MARKS TOLD, PEOPLE are gone and WEIGHTS 1, though the text is the same", x -> {
            Edge.town(x, RICH);
            String fresh = x.look(0);
            rich(x);
            Edge.town(x, RICH);
            Edge.is(x.look(0), fresh);
            Edge.is(x.judge(0, 0), -1);
            Edge.is(x.tell(0, 1), 1);
            Edge.is(x.person(0, 9), 1);
        });
        Edge.edge(3, "all four of STATUS stay behind a town", x -> {
            Edge.town(x, "order;");
            Edge.feed(x, Edge.padded("x", 20));
            x.town(20);
            x.done(0, 0);
            for (int i = 0; i < 2; i++) {
                x.done(0, 0);
            }
            for (int i = 0; i < 103; i++) {
                x.tell(0, 0);
            }
            for (int i = 0; i < 4; i++) {
                x.person(0, 10000);
            }
            Edge.town(x, "order;");
            for (int what = 3; what <= 6; what++) {
                Edge.is(x.count(what), what - 2);
            }
        });
        Edge.edge(3, "behind a town the image is gone, even of one with no works", x -> {
            x.image();
            Edge.is(x.restore(), true);
            Edge.is(x.town(0), 0);
            Edge.is(x.restore(), false);
        });
        Edge.edge(3, "behind a town the weights of all hundred years are 1", x -> {
            String order = "order;" + Edge.times(5, "act 1;");
            Edge.town(x, order);
            for (int year = 0; year < 100; year++) {
                x.weight(year, 99);
            }
            Edge.is(x.years(0, 100, 0), 15 * 99 * 100);
            Edge.town(x, order);
            for (int years = 1; years <= 100; years++) {
                Edge.is(x.years(0, years, 0), 15 * years);
            }
        });
        Edge.edge(3, "all anew: fewer works, then none", x -> {
            Edge.town(x, Edge.times(6, "order;"));
            Edge.is(x.count(0), 6);
            Edge.town(x, "order;act 1;");
            Edge.is(x.count(0), 1);
            Edge.noSuch(() -> x.work(1, 0));
            Edge.town(x, "");
            Edge.is(x.count(0), 0);
            Edge.noSuch(() -> x.work(0, 0));
        });
        Edge.edge(3, "all anew: nothing of one, two or three texts ago", x -> {
            String bonds = "set 2 same other 9;part 1 free;part 2 free;part 3 free;both 0 1;needs 2 1;needs 1 2;";
            for (int i = 0; i < 4; i++) {
                Edge.town(x, bonds);
                Edge.is(x.work(0, 1), 1);
            }
            for (int i = 0; i < 3; i++) {
                Edge.town(x, "set 2;part 1;part 2;part 3;");
                int[] due = {1, 3, 0, 0, 3, 3, 0, 0, 0, 0};
                for (int what = 0; what < 10; what++) {
                    Edge.is(x.work(0, what), due[what]);
                }
            }
        });
    }

    private static void lengths() {
        Edge.edge(3, "a text of 700 bytes is a town up to its last byte", x -> {
            String text = Edge.padded("order;act 5", 699) + ";";
            Edge.feed(x, text);
            Edge.is(x.town(700), 0);
            Edge.is(x.way(0, 0, 0), 5);
            Edge.feed(x, text);
            Edge.is(x.town(699), 1);
            Edge.is(x.fault(), 699);
        });
        Edge.edge(3, "a text of 700 bytes that ends too soon has its fault at 700", x -> {
            Edge.feed(x, Edge.padded("order;act 5", 700));
            Edge.is(x.town(700), 1);
            Edge.is(x.fault(), 700);
        });
        Edge.edge(3, "a number and a word may end with byte 700", x -> {
            Edge.feed(x, Edge.padded("order;act ", 696) + "0999");
            Edge.is(x.town(700), 1);
            Edge.is(x.fault(), 700);
            Edge.feed(x, Edge.padded("order;act 1 ", 696) + "free");
            Edge.is(x.town(700), 1);
            Edge.is(x.fault(), 700);
            Edge.feed(x, Edge.padded("order;act 1 ", 697) + "fre");
            Edge.is(x.town(700), 1);
            Edge.is(x.fault(), 697);
        });
        Edge.edge(3, "of 701 bytes there is no text", x -> {
            Edge.feed(x, Edge.padded("order;", 700));
            Edge.illegal(() -> x.town(701));
            Edge.is(x.count(1), 700);
            Edge.is(x.town(700), 0);
        });
        Edge.edge(3, "an empty text and one of blanks are a town of no works", x -> {
            Edge.good("");
            Edge.good(" ");
            Edge.good("\n\n \n");
        });
    }

    private static void tokens() {
        Edge.edge(3, "which of all 256 bytes are blanks, digits, letters, the sign", x -> {
            for (int b = 0; b < 256; b++) {
                String text = "net" + (char) b + "2;";
                if (b == 32 || b == 10 || b == '0' || b == '1') {
                    Edge.good(text);
                } else if (b >= '2' && b <= '9') {
                    Edge.fault(text, 2, 3);
                } else {
                    Edge.fault(text, 1, b >= 'a' && b <= 'z' ? 0 : 3);
                }
            }
        });
        Edge.edge(3, "no byte but a blank may stand alone between works", x -> {
            for (int b = 0; b < 256; b++) {
                boolean blank = b == 32 || b == 10;
                Edge.fault("order;" + (char) b + "order;", blank ? 0 : 1, blank ? -1 : 6);
            }
        });
        Edge.edge(3, "blanks between tokens count for nothing, and need not be there", x -> {
            Edge.good("net2same other9;step0 1 5free;set1same steps;part1;part2free;both0 1;order same steps;act3;");
            Edge.good(" \n net \n 2 \n same \n other \n 9 \n ; \n step \n 0 \n 1 \n 5 \n free \n ; \n ");
        });
        Edge.edge(3, "a blank parts a word and a number in two", x -> {
            Edge.fault("ne t 2;", 1, 0);
            Edge.fault("n\net 2;", 1, 0);
            Edge.fault("net 1 2;", 2, 4);
            Edge.fault("net 3 3;", 1, 6);
            Edge.fault("order;act 9 9;", 1, 12);
        });
        Edge.edge(3, "a word is the longest row of letters", x -> {
            Edge.fault("orderr;", 1, 0);
            Edge.fault("orde;", 1, 0);
            Edge.fault("netset 1;", 1, 0);
            Edge.fault("order same stepss;", 1, 11);
            Edge.fault("order same step;", 1, 11);
            Edge.fault("order;acts 1;", 1, 6);
            Edge.fault("order;ac 1;", 1, 6);
            Edge.fault("order;act 1 freee;", 1, 12);
            Edge.fault("order;act 1 fre;", 1, 12);
            Edge.fault("order;act 1free free;", 1, 16);
            Edge.fault("net 2;steps 0 1 1;", 1, 6);
            Edge.good("order;act1free;act2free;");
        });
        Edge.edge(3, "words are of small letters", x -> {
            Edge.fault("Order;", 1, 0);
            Edge.fault("ordeR;", 1, 0);
            Edge.fault("order;Act 1;", 1, 6);
        });
    }

    private static void numbers() {
        Edge.edge(3, "a number has 1 to 4 digits, whatever they are", x -> {
            Edge.town(x, "order;act 0;act 7;act 07;act 007;act 0007;act 0000;");
            Edge.is(x.way(0, 0, 0), 7 + 14 + 21 + 28);
        });
        Edge.edge(3, "a number of 5 digits or more is too much, whatever they are", x -> {
            Edge.fault("order;act 00000;", 2, 10);
            Edge.fault("order;act 00001;", 2, 10);
            Edge.fault("order;act 10000;", 2, 10);
            Edge.fault("order;act 4294967296;", 2, 10);
            Edge.fault("order;act 18446744073709551616;", 2, 10);
            Edge.fault("order;act 00000000000000000000000000000000000001;", 2, 10);
            Edge.fault("net 00002;", 2, 4);
            Edge.fault("set 00002;", 2, 4);
            Edge.fault("order same other 00002;", 2, 17);
            Edge.fault("net 2;step 00000 1 1;", 2, 11);
            Edge.fault("net 2;step 0 00001 1;", 2, 13);
            Edge.fault("net 2;step 0 1 00001;", 2, 15);
            Edge.fault("set 1;part 00001;", 2, 11);
            Edge.fault("set 1;part 1;part 1;both 00000 1;", 2, 25);
            Edge.fault("set 1;part 1;part 1;both 0 00001;", 2, 27);
            Edge.fault("set 1;part 1;part 1;needs 00000 1;", 2, 26);
            Edge.fault("set 1;part 1;part 1;needs 0 00001;", 2, 28);
            Edge.fault("order;act 1;act 1;ahead 00000 1;", 2, 24);
            Edge.fault("order;act 1;act 1;ahead 0 00001;", 2, 26);
        });
        Edge.edge(3, "where no number can stand, one of 5 digits is as any other", x -> {
            Edge.fault("12345", 1, 0);
            Edge.fault("order 12345;", 1, 6);
            Edge.fault("order;12345;", 1, 6);
            Edge.fault("order same 12345;", 1, 11);
            Edge.fault("net 2;step 0 1 1 12345;", 1, 17);
        });
        Edge.edge(3, "there are no signs of a number below 0, nor a point", x -> {
            Edge.fault("set -1;", 1, 4);
            Edge.fault("set +1;", 1, 4);
            Edge.fault("order;act 1.5;", 1, 11);
        });
    }

    private static void works() {
        Edge.edge(3, "a net has 2 to 12 places", x -> {
            Edge.fault("net 0;", 2, 4);
            Edge.fault("net 1;", 2, 4);
            Edge.good("net 2;");
            Edge.good("net 12;");
            Edge.fault("net 13;", 2, 4);
            Edge.fault("net 9999;", 2, 4);
        });
        Edge.edge(3, "a set's number is 0 to 12", x -> {
            Edge.good("set 0;");
            Edge.good("set 12;");
            Edge.fault("set 13;", 2, 4);
            Edge.fault("set 9999;", 2, 4);
        });
        Edge.edge(3, "an order has no number, a net and a set need one", x -> {
            Edge.fault("order 1;", 1, 6);
            Edge.fault("net;", 1, 3);
            Edge.fault("set;", 1, 3);
            Edge.fault("net same steps;", 1, 4);
            Edge.fault("set 1 1;", 1, 6);
        });
        Edge.edge(3, "a town has at most 6 works of any kind; the 7th is too much at its first token", x -> {
            String six = "net 2;set 1;order;order;set 0;net 9;";
            Edge.town(x, six);
            Edge.is(x.count(0), 6);
            for (String more : new String[] {"net", "set", "order", "net 1;", "set x", "order!"}) {
                Edge.fault(six + more, 2, six.length());
                Edge.fault(six + " \n" + more, 2, six.length() + 2);
            }
            Edge.fault(six + "step 0 1 1;net", 2, six.length() + 11);
            Edge.fault(six + "step 0 1 net", 1, six.length() + 9);
            Edge.fault(six + "part", 1, six.length());
            Edge.fault(six + "nets", 1, six.length());
        });
        Edge.edge(3, "six works may each have all that a work may have", x -> {
            String orders = Edge.times(6, "order;" + Edge.times(6, ACT));
            Edge.town(x, orders);
            for (int work = 0; work < 6; work++) {
                Edge.is(x.work(work, 4), 6);
                Edge.is(x.work(work, 1), 720);
            }
            Edge.town(x, Edge.times(6, "set6;" + Edge.times(12, PART)));
            for (int work = 0; work < 6; work++) {
                Edge.is(x.work(work, 4), 12);
                Edge.is(x.work(work, 1), 924);
            }
        });
    }

    private static void places() {
        Edge.edge(3, "a step's FROM is a place: 0 to the last one", x -> {
            Edge.good("net 3;step 0 1 1;");
            Edge.good("net 3;step 1 2 1;");
            Edge.fault("net 3;step 2 2 1;", 4, 13);
            Edge.fault("net 3;step 3 4 1;", 3, 11);
            Edge.fault("net 3;step 9999 0 1;", 3, 11);
            Edge.good("net 12;step 10 11 1;");
            Edge.fault("net 12;step 12 11 1;", 3, 12);
        });
        Edge.edge(3, "a step's TO is a place greater than FROM", x -> {
            Edge.good("net 3;step 0 2 1;");
            Edge.fault("net 3;step 0 3 1;", 3, 13);
            Edge.fault("net 3;step 0 9999 1;", 3, 13);
            Edge.fault("net 3;step 0 0 1;", 4, 13);
            Edge.fault("net 3;step 1 1 1;", 4, 13);
            Edge.fault("net 3;step 1 0 1;", 4, 13);
            Edge.fault("net 3;step 2 1 1;", 4, 13);
            Edge.fault("net 3;step 2 0 1;", 4, 13);
            Edge.fault("net 3;step 2 3 1;", 3, 13);
            Edge.good("net 12;step 0 11 1;");
            Edge.fault("net 12;step 0 12 1;", 3, 14);
        });
        Edge.edge(3, "a place that there isn't comes ahead of what follows it in the text", x -> {
            Edge.fault("net 3;step 3 3 1000;", 3, 11);
            Edge.fault("net 3;step 0 3 1000;", 3, 13);
            Edge.fault("net 3;step 1 1 1000;", 4, 13);
        });
    }

    private static void costs() {
        String[] heads = {"net 2;step 0 1 ", "set 1;part ", "order;act "};
        Edge.edge(3, "a cost is 0 to 999, of a step, a part, an act", x -> {
            for (String head : heads) {
                for (int cost : new int[] {0, 1, 998, 999}) {
                    Counted y = Edge.fresh(head + cost + ";");
                    Edge.is(y.way(0, 0, 0), cost);
                }
                Edge.fault(head + "1000;", 2, head.length());
                Edge.fault(head + "9999;", 2, head.length());
                Edge.fault(head + "1000 free;", 2, head.length());
                Edge.fault(head + ";", 1, head.length());
                Edge.fault(head + "free;", 1, head.length());
            }
        });
        Edge.edge(3, "behind a cost 'free' once, or nothing", x -> {
            for (String head : heads) {
                Edge.good(head + "1;");
                Edge.good(head + "1 free;");
                Edge.fault(head + "1 free free;", 1, head.length() + 7);
                Edge.fault(head + "1 free 1;", 1, head.length() + 7);
                Edge.fault(head + "1 1;", 1, head.length() + 2);
                Edge.fault(head + "1 same;", 1, head.length() + 2);
            }
        });
    }

    private static void bonds() {
        String[][] kinds = {{"set 1;", "part 1;", "both "}, {"set 1;", "part 1;", "needs "}, {"order;", "act 1;", "ahead "}};
        for (String[] kind : kinds) {
            String none = kind[0] + kind[2];
            String two = kind[0] + Edge.times(2, kind[1]) + kind[2];
            int from = two.length();
            Edge.edge(3, "A and B of " + kind[2] + "are of those told ahead", x -> {
                Edge.good(two + "0 1;");
                Edge.good(two + "1 0;");
                Edge.fault(two + "2 0;", 3, from);
                Edge.fault(two + "0 2;", 3, from + 2);
                Edge.fault(two + "9999 0;", 3, from);
                Edge.fault(two + "0 9999;", 3, from + 2);
                Edge.fault(two + "0 2;" + kind[1], 3, from + 2);
                Edge.fault(none + "0 1;", 3, none.length());
                Edge.fault(none + "0 1;" + Edge.times(2, kind[1]), 3, none.length());
            });
            Edge.edge(3, "B of " + kind[2] + "is not A", x -> {
                Edge.fault(two + "0 0;", 4, from + 2);
                Edge.fault(two + "1 1;", 4, from + 2);
                Edge.fault(two + "2 2;", 3, from);
            });
            Edge.edge(3, "behind A and B of " + kind[2] + "the sign stands", x -> {
                Edge.fault(two + "0;", 1, from + 1);
                Edge.fault(two + ";", 1, from);
                Edge.fault(two + "0 1 free;", 1, from + 4);
                Edge.fault(two + "0 1 0;", 1, from + 4);
            });
        }
        Edge.edge(3, "A and B may be the last part of 12, the last act of 6", x -> {
            Edge.good("set 1;" + Edge.times(12, PART) + "both 11 0;needs 0 11;");
            String parts = "set 1;" + Edge.times(12, PART) + "both 0 ";
            Edge.fault(parts + "12;", 3, parts.length());
            Edge.good("order;" + Edge.times(6, ACT) + "ahead 5 0;ahead 1 5;");
            String acts = "order;" + Edge.times(6, ACT) + "ahead 0 ";
            Edge.fault(acts + "6;", 3, acts.length());
        });
        Edge.edge(3, "parts and acts are told ahead in their own work, not in one ahead", x -> {
            Edge.fault("set 1;part 1;part 1;set 1;part 1;both 0 1;", 3, 40);
            Edge.fault("order;act 1;act 1;order;act 1;ahead 0 1;", 3, 38);
        });
    }

    private static void laws() {
        for (String head : new String[] {"net 2", "set 1", "order"}) {
            int at = head.length();
            Edge.edge(3, "SAME behind " + head + ": steps, or other by 1 to 9, once", x -> {
                Edge.good(head + " same steps;");
                for (int number = 1; number <= 9; number++) {
                    Counted y = Edge.fresh(head + " same other " + number + ";");
                    Edge.is(y.work(0, 2), 2);
                    Edge.is(y.work(0, 3), number);
                }
                Edge.fault(head + " same other 0;", 2, at + 12);
                Edge.fault(head + " same other 10;", 2, at + 12);
                Edge.fault(head + " same other 9999;", 2, at + 12);
                Edge.fault(head + " same;", 1, at + 5);
                Edge.fault(head + " same other;", 1, at + 11);
                Edge.fault(head + " same steps 1;", 1, at + 12);
                Edge.fault(head + " same 1;", 1, at + 6);
                Edge.fault(head + " steps;", 1, at + 1);
                Edge.fault(head + " other 1;", 1, at + 1);
                Edge.fault(head + " same steps same steps;", 1, at + 12);
                Edge.fault(head + " same steps other 2;", 1, at + 12);
                Edge.fault(head + " same other 2 steps;", 1, at + 14);
                Edge.fault(head + " same other 2 2;", 1, at + 14);
                Edge.fault(head + ";same steps;", 1, at + 1);
            });
        }
    }

    private static void tooMany() {
        Edge.edge(3, "a net has at most 20 steps; the 21st is too much at its first token", x -> {
            String net = "net 2;" + Edge.times(20, STEP);
            Edge.town(x, net);
            Edge.is(x.work(0, 4), 20);
            Edge.fault(net + "step", 2, net.length());
            Edge.fault(net + "\n step 9 9 9999", 2, net.length() + 2);
            Edge.fault(net + "stepp", 1, net.length());
            Edge.fault("net 2;" + Edge.times(19, STEP) + "step 1 1 1;step", 4, net.length() + 7 - STEP.length());
        });
        Edge.edge(3, "a set has at most 12 parts; the 13th is too much at its first token", x -> {
            String set = "set 1;" + Edge.times(12, PART);
            Edge.town(x, set);
            Edge.is(x.work(0, 4), 12);
            Edge.fault(set + "part", 2, set.length());
            Edge.fault(set + "both 0 1;part 1000;", 2, set.length() + 9);
            Edge.fault(set + "parts", 1, set.length());
        });
        Edge.edge(3, "an order has at most 6 acts; the 7th is too much at its first token", x -> {
            String order = "order;" + Edge.times(6, ACT);
            Edge.town(x, order);
            Edge.is(x.work(0, 4), 6);
            Edge.fault(order + "act", 2, order.length());
            Edge.fault(order + "ahead 0 1;act 1000;", 2, order.length() + 10);
            Edge.fault(order + "acts", 1, order.length());
        });
        Edge.edge(3, "a work has at most 12 of BOTH, NEEDS, AHEAD together; the 13th is too much at its first token", x -> {
            String set = "set 1;part 1;part 1;";
            String[] twelve = {Edge.times(12, "both 0 1;"), Edge.times(12, "needs 0 1;"), Edge.times(6, "both 0 1;needs 1 0;"),
                Edge.times(11, "needs 0 1;") + "both 1 0;"};
            for (String some : twelve) {
                Edge.good(set + some);
                Edge.good(set + some + "part 1;set 1;");
                Edge.fault(set + some + "both", 2, (set + some).length());
                Edge.fault(set + some + "needs 9 9;", 2, (set + some).length());
                Edge.fault(set + some + "part 1; needs 0 0;", 2, (set + some).length() + 8);
                Edge.fault(set + some + "ahead 0 1;", 1, (set + some).length());
            }
            String order = "order;act 1;act 1;" + Edge.times(12, "ahead 0 1;");
            Edge.good(order);
            Edge.fault(order + "ahead", 2, order.length());
            Edge.fault(order + "both 0 1;", 1, order.length());
        });
        Edge.edge(3, "what a work has at most is counted anew in the next work", x -> {
            Edge.good(Edge.times(2, "net 2;" + Edge.times(20, STEP)));
            Edge.good(Edge.times(2, "set 1;" + Edge.times(12, PART)));
            Edge.good(Edge.times(2, "order;" + Edge.times(6, ACT)));
            Edge.good(Edge.times(2, "set 1;part 1;part 1;" + Edge.times(12, "both 0 1;")));
            Edge.good(Edge.times(2, "order;act 1;act 1;" + Edge.times(12, "ahead 0 1;")));
            String both = "set 1;part 1;part 1;" + Edge.times(12, "both 0 1;") + "order;act 1;act 1;" + Edge.times(12, "ahead 0 1;");
            Edge.good(both);
            Edge.fault(both + "ahead", 2, both.length());
        });
        Edge.edge(3, "what a work has at most is counted anew in the next text, and in the one behind that", x -> {
            String[] texts = {"net 2;" + Edge.times(20, STEP), "set 1;" + Edge.times(12, PART) + Edge.times(12, "both 0 1;"),
                "order;" + Edge.times(6, ACT) + Edge.times(12, "ahead 0 1;"), Edge.times(6, "order;")};
            for (String text : texts) {
                for (int i = 0; i < 4; i++) {
                    Edge.town(x, text);
                }
            }
        });
        Edge.edge(3, "what a faulty text told ahead of its fault is not counted in the next one", x -> {
            Edge.feed(x, "net 2;" + Edge.times(20, STEP) + "!");
            Edge.is(x.town(207), 1);
            Edge.town(x, "net 2;" + Edge.times(20, STEP));
            String orders = Edge.times(6, "order;");
            Edge.feed(x, orders + "!");
            Edge.is(x.town(37), 1);
            Edge.town(x, orders);
        });
    }

    private static void misplaced() {
        String[] heads = {"", "net 2;", "set 1;part 1;part 1;", "order;act 1;act 1;"};
        String[][] fits = {{"net", "set", "order"}, {"net", "set", "order", "step"},
            {"net", "set", "order", "part", "both", "needs"}, {"net", "set", "order", "act", "ahead"}};
        for (int i = 0; i < heads.length; i++) {
            String head = heads[i];
            String some = " " + String.join(" ", fits[i]) + " ";
            Edge.edge(3, "which words begin a row behind [" + head + "]", x -> {
                for (String word : WORDS) {
                    boolean fitsHere = some.contains(" " + word + " ");
                    int end = head.length() + word.length();
                    Edge.fault(head + word, 1, fitsHere ? end : head.length());
                }
                Edge.fault(head + ";", 1, head.length());
                Edge.fault(head + "1", 1, head.length());
            });
        }
        Edge.edge(3, "no word of the text stands for another", x -> {
            for (String word : WORDS) {
                if (!word.equals("same")) {
                    Edge.fault("order " + word + ";", 1, 6);
                }
                if (!word.equals("steps") && !word.equals("other")) {
                    Edge.fault("order same " + word + ";", 1, 11);
                }
                if (!word.equals("free")) {
                    Edge.fault("order;act 1 " + word + ";", 1, 12);
                }
                Edge.fault("order;act " + word + ";", 1, 10);
            }
        });
    }

    private static void ends() {
        String text = "net 3 same other 2;step 0 2 7 free;step 0 1 3;set 1 same steps;part 5;part 6 free;both 0 1;needs 1 0;"
                + "order;act 1;act 2;ahead 0 1;";
        Edge.edge(3, "a text that ends behind any token but the sign ends too soon, at its length", x -> {
            for (int n = 1; n <= text.length(); n++) {
                char last = text.charAt(n - 1);
                char next = n < text.length() ? text.charAt(n) : ' ';
                boolean sign = last == ';';
                boolean whole = last != ' ' && (next == ' ' || next == ';');
                if (sign || whole) {
                    Edge.fault(text.substring(0, n), sign ? 0 : 1, sign ? -1 : n);
                    Edge.fault(text.substring(0, n) + " \n", sign ? 0 : 1, sign ? -1 : n + 2);
                }
            }
        });
        Edge.edge(3, "the length of the text, not of the tape, is where it ends too soon", x -> {
            Edge.feed(x, Edge.padded("order;act 5;", 40));
            Edge.is(x.town(10), 1);
            Edge.is(x.fault(), 10);
        });
    }

    private static void firstAndLeast() {
        Edge.edge(3, "of several faults the first along the text", x -> {
            Edge.fault("net 1;x", 2, 4);
            Edge.fault("x net 1;", 1, 0);
            Edge.fault("order;act 1000;act 1000;", 2, 10);
            Edge.fault("set 1;part 1;both 0 1;both 5 5;", 3, 20);
            Edge.fault("net 3;step 0 0 1000;", 4, 13);
            Edge.fault("net 3;step 5 0 1;step 1 0 1;", 3, 11);
        });
        Edge.edge(3, "of one token the least fault", x -> {
            // a number of 5 digits is no place, too, and none that is greater
            Edge.fault("net 3;step 0 99999 1;", 2, 13);
            Edge.fault("net 3;step 1 00000 1;", 2, 13);
            Edge.fault("set 1;part 1;both 0 00000;", 2, 20);
            Edge.fault("set 1;part 1;both 99999 0;", 2, 18);
            // a word is neither a number nor a place
            Edge.fault("net 3;step x 1 1;", 1, 11);
            Edge.fault("net 3;step 0 x 1;", 1, 13);
            Edge.fault("net x;", 1, 4);
        });
    }

    private static void faultPlaces() {
        Edge.edge(4, "of a new object there is none", x -> Edge.is(x.fault(), -1));
        Edge.edge(4, "0 at the first byte, the text's length at its end", x -> {
            Edge.feed(x, Edge.padded("!", 20));
            Edge.is(x.town(20), 1);
            Edge.is(x.fault(), 0);
            Edge.feed(x, Edge.padded("order", 20));
            Edge.is(x.town(20), 1);
            Edge.is(x.fault(), 20);
        });
        Edge.edge(4, "it is the latest town()'s, be that one good", x -> {
            Edge.feed(x, Edge.padded(" !", 20));
            x.town(20);
            Edge.is(x.fault(), 1);
            Edge.feed(x, Edge.padded("  !", 20));
            x.town(20);
            Edge.is(x.fault(), 2);
            Edge.is(x.town(0), 0);
            Edge.is(x.fault(), -1);
        });
        Edge.edge(4, "a town() that throws and all other calls leave it", x -> {
            Edge.town(x, "order;");
            Edge.feed(x, Edge.padded("   !", 20));
            x.image();
            x.town(20);
            Edge.illegal(() -> x.town(-1));
            Edge.is(x.fault(), 3);
            x.done(0, 0);
            x.restore();
            Edge.is(x.fault(), 3);
        });
    }
}
