/** Promises 2, 3, 4: the tape, the town's text, its faults; also 5 as to both. */
public final class TextTest {
    public static void main(String[] args) {
        feeding();
        towns();
        tokens();
        faultsOfNets();
        faultsOfSets();
        faultsOfOrders();
        tooMany();
        whatStays();
        worksStay();
        anew();
        Check.end();
    }

    private static void feeding() {
        NeverTwice x = new NeverTwice();
        for (int i = 1; i <= 35; i++) {
            Check.due("feed " + i, x.feed(0x20202020, 0x20202020, 0x20202020, 0x20202020, 0x20202020), 20 * i);
        }
        Check.due("feed 36", x.feed(1, 2, 3, 4, 5), -1);
        Check.due("count(1)", x.count(1), 700);
        Check.due("town of all blanks", x.town(700), 0);
        Check.due("count(1)", x.count(1), 0);
        Check.due("feed anew", x.feed(0x6f726465, 0x723b0a20, 0, 0, 0), 20);
        Check.due("order;", x.town(8), 0);
        Check.due("the highest byte first", x.work(0, 0), 2);
        x.feed(0x20202020, 0x20202020, 0x20202020, 0x20202020, 0x20202078);
        Check.due("the twentieth byte", x.town(20), 1);
        Check.due("its place", x.fault(), 19);
    }

    private static void towns() {
        NeverTwice x = new NeverTwice();
        Check.feed(x, "order;order;        ");
        Check.illegal("town(21)", () -> x.town(21));
        Check.illegal("town(-1)", () -> x.town(-1));
        Check.due("nothing changes", x.count(1), 20);
        Check.due("town(6)", x.town(6), 0);
        Check.due("only the first bytes", x.count(0), 1);
        Check.due("the tape is empty", x.count(1), 0);
        Check.illegal("town(1)", () -> x.town(1));
        Check.due("town(0)", x.town(0), 0);
        Check.due("no works", x.count(0), 0);
        Check.noSuch("count(7)", () -> x.count(7));
        Check.noSuch("count(-1)", () -> x.count(-1));
    }

    private static void tokens() {
        Check.fault("net2;step0 1 5free;set1same steps;part1;part2free;both0 1;order same other9;act3;", 0, -1);
        Check.fault("\n net\n 0002 ;\n\nstep 0 1 0999 ;  ", 0, -1);
        Check.fault("", 0, -1);
        Check.fault("net 2;\tstep 0 1 1;", 1, 6);
        Check.fault("net 2;\r", 1, 6);
        Check.fault("Net 2;", 1, 0);
        Check.fault("net 2,", 1, 5);
        Check.fault("net 2;\u00e9", 1, 6);
        Check.fault("net -2;", 1, 4);
        Check.fault("ne t 2;", 1, 0);
        Check.fault("nets 2;", 1, 0);
        Check.fault("orderz;", 1, 0);
        Check.fault("ordera;", 1, 0);
        Check.fault("order;a`", 1, 6);
        Check.fault("order;`", 1, 6);
        Check.fault("order;{", 1, 6);
        Check.fault("order;act 1/", 1, 11);
        Check.fault("order;act 1:", 1, 11);
        Check.fault(" order same steps other 2;", 1, 18);
        Check.fault(";", 1, 0);
        Check.fault("7", 1, 0);
        Check.fault("12345", 1, 0);
        Check.fault("order;;", 1, 6);
        Check.fault("order", 1, 5);
        Check.fault("order  \n", 1, 8);
        Check.fault("order;act", 1, 9);
        Check.fault("order;act 1", 1, 11);
        Check.fault("order;act 1 free", 1, 16);
    }

    private static void faultsOfNets() {
        Check.fault("net;", 1, 3);
        Check.fault("net 1;", 2, 4);
        Check.fault("net 12;", 0, -1);
        Check.fault("net 13;", 2, 4);
        Check.fault("net 00002;", 2, 4);
        Check.fault("net 3 3;", 1, 6);
        Check.fault("net 3 same;", 1, 10);
        Check.fault("net 3 same other;", 1, 16);
        Check.fault("net 3 same other 0;", 2, 17);
        Check.fault("net 3 same other 1;", 0, -1);
        Check.fault("net 3 same other 9;", 0, -1);
        Check.fault("net 3 same other 10;", 2, 17);
        Check.fault("net 3 same other 10000;", 2, 17);
        Check.fault("net 3 same steps 2;", 1, 17);
        Check.fault("net 3;step 3 1 1;", 3, 11);
        Check.fault("net 3;step 0 3 1;", 3, 13);
        Check.fault("net 3;step 2 2 1;", 4, 13);
        Check.fault("net 3;step 2 1 1;", 4, 13);
        Check.fault("net 3;step 2 3 1;", 3, 13);
        Check.fault("net 3;step 0 10000 1;", 2, 13);
        Check.fault("net 3;step 10000 9 1;", 2, 11);
        Check.fault("net 3;step 9999 9 1;", 3, 11);
        Check.fault("net 3;step 0 1 999;", 0, -1);
        Check.fault("net 3;step 0 1 1000;", 2, 15);
        Check.fault("net 3;step 0 1;", 1, 14);
        Check.fault("net 3;step 0 1 5 freed;", 1, 17);
        Check.fault("net 3;step 0 1 5 free free;", 1, 22);
        Check.fault("net 3;step 0 1 5 free 5;", 1, 22);
        Check.fault("net 3;step free", 1, 11);
        Check.fault("net 3;part 1;", 1, 6);
        Check.fault("net 3;both 0 1;", 1, 6);
        Check.fault("net 3;act 1;", 1, 6);
        Check.fault("net 3;same steps;", 1, 6);
        Check.fault("step 0 1 1;", 1, 0);
    }

    private static void faultsOfSets() {
        Check.fault("set 0;", 0, -1);
        Check.fault("set 12;", 0, -1);
        Check.fault("set 13;", 2, 4);
        Check.fault("set;", 1, 3);
        Check.fault("set 1;part 1000;", 2, 11);
        Check.fault("set 1;part;", 1, 10);
        Check.fault("set 1;both 0 1;", 3, 11);
        Check.fault("set 1;part 1;both 0 1;part 1;", 3, 20);
        Check.fault("set 1;part 1;both 0 0;", 4, 20);
        Check.fault("set 1;part 1;both 1 1;", 3, 18);
        Check.fault("set 1;part 1;part 1;needs 1 1;", 4, 28);
        Check.fault("set 1;part 1;part 1;needs 1 0;part 1;both 2 0;", 0, -1);
        Check.fault("set 1;part 1;part 1;needs 0 2;", 3, 28);
        Check.fault("set 1;part 1;part 1;needs 0 00001;", 2, 28);
        Check.fault("set 1;part 1;part 1;needs 0;", 1, 27);
        Check.fault("set 1;part 1;part 1;needs 0 1 free;", 1, 30);
        Check.fault("set 1;ahead 0 1;", 1, 6);
        Check.fault("set 1;step 0 1 1;", 1, 6);
        Check.fault("set 1;act 1;", 1, 6);
    }

    private static void faultsOfOrders() {
        Check.fault("order 3;", 1, 6);
        Check.fault("order;act 1;act 1;ahead 0 1;ahead 1 0;", 0, -1);
        Check.fault("order;act 1;act 1;ahead 0 2;", 3, 26);
        Check.fault("order;act 1;act 1;ahead 2 0;", 3, 24);
        Check.fault("order;act 1;act 1;ahead 1 1;", 4, 26);
        Check.fault("order;act 1;act 1;both 0 1;", 1, 18);
        Check.fault("order;act 1;act 1;needs 0 1;", 1, 18);
        Check.fault("order;part 1;", 1, 6);
    }

    private static void tooMany() {
        String net = "net 2;" + Check.times(20, "step 0 1 1;");
        Check.fault(net, 0, -1);
        Check.fault(net + "step x", 2, net.length());
        Check.fault(net + "stop", 1, net.length());
        String set = "set 1;" + Check.times(12, "part 1;");
        Check.fault(set, 0, -1);
        Check.fault(set + " part", 2, set.length() + 1);
        String bonds = "set 1;part 1;part 1;" + Check.times(6, "both 0 1;needs 1 0;");
        Check.fault(bonds, 0, -1);
        Check.fault(bonds + "part 1;part 1;set 1;part 1;part 1;both 0 1;", 0, -1);
        Check.fault(bonds + "both 9 9;", 2, bonds.length());
        Check.fault(bonds + "needs;", 2, bonds.length());
        Check.fault(bonds + "ahead;", 1, bonds.length());
        String order = "order;" + Check.times(6, "act 1;");
        Check.fault(order, 0, -1);
        Check.fault(order + "act;", 2, order.length());
        String ahead = order + Check.times(12, "ahead 0 1;");
        Check.fault(ahead, 0, -1);
        Check.fault(ahead + "ahead;", 2, ahead.length());
        String works = "net 2;set 1;order;order;set 0;net 9;";
        Check.fault(works, 0, -1);
        Check.fault(works + "step 0 1 1;net", 2, works.length() + 11);
        Check.fault(works + "set", 2, works.length());
        Check.fault(works + " order;", 2, works.length() + 1);
        Check.fault(works + "part", 1, works.length());
    }

    /** A faulty text, however far it comes, leaves the works as they are. */
    private static void worksStay() {
        NeverTwice x = Check.town("set 1 same steps;part 3 free;part 4 free;part 5;order;act 1;act 2;");
        x.done(0, 1);
        String[] faulty = {"net 5 same other 4;step 0 1 9;set 3;part 1 free;part 2 free;part 3 free;both 0 1;!",
            "order;act 7;act 8;ahead 0 1;order same steps;act 3 free;act", "set 0;set 0;set 0;set 0;set 0;set 0;set 0;"};
        for (String text : faulty) {
            Check.due("a fault", Check.read(x, text) != 0, true);
            int[] set = {1, 3, 1, 0, 3, 1, 1, 3};
            int[] order = {2, 2, 0, 0, 2, 2, 0, 0};
            for (int what = 0; what < 8; what++) {
                Check.due("work(0, " + what + ")", x.work(0, what), set[what]);
                Check.due("work(1, " + what + ")", x.work(1, what), order[what]);
            }
            Check.due("way(0, 2, 0)", x.way(0, 2, 0), 5);
            Check.due("same(0, 0, 1, 1)", x.same(0, 0, 1, 1), 1);
            Check.due("count(0)", x.count(0), 2);
        }
    }

    /** All anew: nothing of an earlier town, be it two towns ago, is in a later one. */
    private static void anew() {
        String bonds = "set 3 same other 9;part 1 free;part 2 free;part 3 free;part 4 free;"
                + Check.times(4, "both 0 1;needs 2 3;needs 1 0;");
        String net = "net 3 same steps;step 0 1 5 free;step 1 2 6 free;step 0 2 7;";
        NeverTwice x = Check.town(bonds);
        for (int i = 0; i < 5; i++) {
            Check.due("a town", Check.read(x, i < 3 ? bonds : net), 0);
        }
        Check.due("a town", Check.read(x, "set 2;part 1;part 2;part 3;"), 0);
        Check.due("ways", x.work(0, 1), 3);
        Check.due("law", x.work(0, 2), 0);
        Check.due("number of other", x.work(0, 3), 0);
        Check.due("parts", x.work(0, 4), 3);
        Check.due("free", x.work(0, 7), 0);
        Check.due("same", x.same(0, 0, 1, 1), 0);
        for (int i = 0; i < 3; i++) {
            Check.due("a town", Check.read(x, bonds), 0);
        }
        Check.due("a town", Check.read(x, "order;act 1;act 2;act 3;"), 0);
        Check.due("a town", Check.read(x, "order;act 1;act 2;act 3;"), 0);
        Check.due("ways", x.work(0, 1), 6);
        Check.due("a town", Check.read(x, "order;order;set 0;"), 0);
        Check.due("a town", Check.read(x, "net 2;"), 0);
        Check.due("works", x.count(0), 1);
        Check.noSuch("work(1, 0)", () -> x.work(1, 0));
    }

    private static void whatStays() {
        NeverTwice x = Check.town("order;act 1;set 1;part 3;");
        x.done(1, 0);
        x.tell(1, 7);
        x.person(1, 9);
        x.weight(0, 5);
        x.image();
        Check.due("a fault", Check.read(x, "order;act 1 1;"), 1);
        Check.due("its place", x.fault(), 12);
        Check.due("the tape is empty then too", x.count(1), 0);
        Check.due("texts refused", x.count(3), 1);
        Check.due("the works stay", x.count(0), 2);
        Check.due("the book stays", x.count(2), 1);
        Check.due("the marks told stay", x.work(1, 8), 1);
        Check.due("the people stay", x.work(1, 9), 1);
        Check.due("the weights stay", x.years(0, 1, 0), 5);
        Check.illegal("town(1)", () -> x.town(1));
        Check.due("the place of the latest fault stays", x.fault(), 12);
        Check.due("no text is refused by that", x.count(3), 1);
        Check.due("the image stays", x.restore(), true);
        Check.due("the image keeps the refusals", x.count(3), 0);
        Check.due("but not the fault", x.fault(), 12);
        Check.due("a fault", Check.read(x, "x"), 1);
        x.done(1, 0);
        Check.due("a town", Check.read(x, "order;act 1;set 1;part 3;"), 0);
        Check.due("no fault", x.fault(), -1);
        Check.due("texts refused stay", x.count(3), 1);
        Check.due("ways refused stay", x.count(4), 1);
        Check.due("the book is gone", x.count(2), 0);
        Check.due("nothing is spent", x.work(1, 5), 1);
        Check.due("the marks told are gone", x.work(1, 8), 0);
        Check.due("the people are gone", x.work(1, 9), 0);
        Check.due("the weights are 1", x.years(0, 1, 0), 1);
        Check.due("the image is gone", x.restore(), false);
    }
}
