import java.util.Random;

/** Random runs of calls, each answer beside the oracle's; a run is told by its number when it goes wrong. */
public final class RandomTest {
    private static final int RUNS = 1500;
    private static final int CALLS = 300;

    private interface Call {
        long answer();
    }

    private final Random random;
    private final NeverTwice x = new NeverTwice();
    private final Oracle oracle = new Oracle();
    private final int run;

    private RandomTest(int run) {
        this.run = run;
        random = new Random(run);
    }

    public static void main(String[] args) {
        for (int run = 0; run < RUNS; run++) {
            new RandomTest(run).go();
        }
        Check.end();
    }

    private void go() {
        newTown();
        int calls = random.nextInt(CALLS);
        for (int i = 0; i < calls; i++) {
            call();
        }
    }

    private static String answerOf(Call call) {
        try {
            return Long.toString(call.answer());
        } catch (RuntimeException thrown) {
            return thrown.getClass().getSimpleName();
        }
    }

    private void both(String call, Call got, Call due) {
        Check.due("run " + run + ": " + call, answerOf(got), answerOf(due));
    }

    private int pick(int... of) {
        return of[random.nextInt(of.length)];
    }

    /** Mostly below a bound, at times at it, behind it, or below 0. */
    private int below(int bound) {
        return random.nextInt(12) == 0 ? pick(-1, bound, bound + 1, Integer.MAX_VALUE, Integer.MIN_VALUE)
                : random.nextInt(Math.max(1, bound));
    }

    private int anyWork() {
        return below(oracle.count(0));
    }

    private int anyWay(int work) {
        return below(work < 0 || work >= oracle.count(0) ? 3 : oracle.work(work, 1));
    }

    private int anyMark(int work) {
        boolean has = work >= 0 && work < oracle.count(0) && oracle.work(work, 1) > 0;
        if (!has || random.nextInt(5) == 0) {
            return pick(random.nextInt(64), random.nextInt(), random.nextInt(1 << 20));
        }
        return oracle.way(work, random.nextInt(oracle.work(work, 1)), 1);
    }

    private void newTown() {
        String text = random.nextInt(6) == 0 ? spoilt(text()) : text();
        while (text.length() > 700) {
            text = text();
        }
        StringBuilder padded = new StringBuilder(text);
        while (padded.length() % 20 != 0) {
            padded.append(' ');
        }
        for (int i = 0; i < padded.length(); i += 20) {
            int[] five = new int[5];
            for (int k = 0; k < 5; k++) {
                five[k] = Check.number(padded, i + 4 * k);
            }
            both("feed", () -> x.feed(five[0], five[1], five[2], five[3], five[4]), () -> oracle.feed(five));
        }
        int n = random.nextInt(20) == 0 ? below(padded.length()) : text.length();
        both("town(" + n + ") of " + text, () -> x.town(n), () -> oracle.town(n));
        both("fault", x::fault, oracle::fault);
    }

    private String text() {
        StringBuilder text = new StringBuilder();
        int works = 1 + random.nextInt(random.nextInt(10) == 0 ? 7 : 4);
        for (int i = 0; i < works; i++) {
            switch (random.nextInt(3)) {
                case 0 -> net(text);
                case 1 -> set(text);
                default -> order(text);
            }
        }
        return text.toString();
    }

    private String same() {
        return pick(0, 1, 2, 2) == 0 ? "" : random.nextBoolean() ? " same steps" : " same other " + (1 + random.nextInt(5));
    }

    private int cost() {
        return pick(0, 1, random.nextInt(4), random.nextInt(20), random.nextInt(1000));
    }

    private String end() {
        return random.nextInt(3) == 0 ? " free;" : random.nextInt(9) == 0 ? " ;\n" : ";";
    }

    private void net(StringBuilder text) {
        int places = pick(2, 3, 3, 4, 4, 5, 12);
        text.append("net ").append(places).append(same()).append(';');
        int steps = random.nextInt(random.nextInt(8) == 0 ? 21 : 9);
        for (int i = 0; i < steps; i++) {
            int from = random.nextInt(places - 1);
            int to = random.nextInt(3) > 0 ? from + 1 : from + 1 + random.nextInt(places - 1 - from);
            text.append("step ").append(from).append(' ').append(to).append(' ').append(cost()).append(end());
        }
    }

    private void set(StringBuilder text) {
        int parts = random.nextInt(random.nextInt(8) == 0 ? 11 : 6);
        text.append("set ").append(random.nextInt(parts + 2) * 2 / 3).append(same()).append(';');
        for (int i = 0; i < parts; i++) {
            text.append("part ").append(cost()).append(end());
            if (i > 0 && random.nextInt(6) == 0) {
                text.append(random.nextBoolean() ? "both " : "needs ").append(i).append(' ').append(random.nextInt(i)).append(';');
            }
        }
    }

    private void order(StringBuilder text) {
        int acts = random.nextInt(random.nextInt(6) == 0 ? 6 : 5);
        text.append("order").append(same()).append(';');
        for (int i = 0; i < acts; i++) {
            text.append("act ").append(cost()).append(end());
            if (i > 0 && random.nextInt(4) == 0) {
                boolean turned = random.nextBoolean();
                int other = random.nextInt(i);
                text.append("ahead ").append(turned ? i : other).append(' ').append(turned ? other : i).append(';');
            }
        }
    }

    /** A text with a byte or a token changed, left out or put in. */
    private String spoilt(String text) {
        StringBuilder spoilt = new StringBuilder(text);
        for (int many = 1 + random.nextInt(3); many > 0; many--) {
            int at = random.nextInt(spoilt.length() + 1);
            String[] bits = {"net", "set", "order", "step", "part", "act", "both", "needs", "ahead", "free", "same", "steps",
                "other", ";", " ", "\n", "0", "9", "12", "13", "1000", "12345", "x", "-", "\u00ff", "\0", "both 0 0;",
                "step 1 1 1;", "part 1;", "act 1;", "ahead 1 0;"};
            int to = Math.min(spoilt.length(), at + random.nextInt(3));
            spoilt.replace(at, to, random.nextInt(4) == 0 ? "" : bits[random.nextInt(bits.length)]);
        }
        return spoilt.toString();
    }

    private void call() {
        int w = anyWork();
        int what = random.nextInt(40) == 0 ? pick(-1, 11, Integer.MIN_VALUE) : random.nextInt(4);
        int way = anyWay(w);
        switch (random.nextInt(27)) {
            case 0 -> {
                if (random.nextInt(8) == 0) {
                    newTown();
                }
            }
            case 1 -> both("count", () -> x.count(what + 3), () -> oracle.count(what + 3));
            case 2 -> {
                int any = below(10);
                both("work(" + w + ", " + any + ")", () -> x.work(w, any), () -> oracle.work(w, any));
            }
            case 3 -> both("way(" + w + ", " + way + ", " + what + ")", () -> x.way(w, way, what), () -> oracle.way(w, way, what));
            case 4 -> {
                int mark = anyMark(w);
                both("find(" + w + ", " + mark + ")", () -> x.find(w, mark), () -> oracle.find(w, mark));
            }
            case 5 -> {
                int other = anyWay(w);
                both("same(" + w + ", " + way + ", " + other + ", " + what + ")",
                        () -> x.same(w, way, other, what), () -> oracle.same(w, way, other, what));
            }
            case 6, 7 -> both("done(" + w + ", " + way + ")", () -> x.done(w, way) ? 1 : 0, () -> oracle.done(w, way));
            case 8 -> {
                int i = below(oracle.count(2));
                both("book(" + i + ", " + what + ")", () -> x.book(i, what), () -> oracle.book(i, what));
            }
            case 9 -> {
                int i = below(6);
                both("left(" + w + ", " + i + ")", () -> x.left(w, i), () -> oracle.left(w, i));
            }
            case 10 -> {
                for (int many = pick(1, 1, 1, 1, 2, 3, 40); many > 0; many--) {
                    int mark = anyMark(w);
                    both("tell(" + w + ", " + mark + ")", () -> x.tell(w, mark), () -> oracle.tell(w, mark));
                }
            }
            default -> judged(w, what);
        }
    }

    private void judged(int w, int what) {
        int number = pick(below(31), below(5));
        int years = pick(below(101), below(5), below(5));
        int chance = pick(below(1001), 1000, 500, 0);
        switch (random.nextInt(17)) {
            case 0 -> both("judge(" + w + ", " + what + ")", () -> x.judge(w, what), () -> oracle.judge(w, what));
            case 1 -> {
                if (random.nextInt(4) == 0) {
                    both("apart(" + w + ", " + number + ", " + what + ")",
                            () -> x.apart(w, number, what), () -> oracle.apart(w, number, what));
                }
            }
            case 2 -> {
                int year = pick(below(100), below(4));
                int weight = below(100);
                both("weight(" + year + ", " + weight + ")", () -> x.weight(year, weight) ? 1 : 0, () -> oracle.weight(year, weight));
            }
            case 3, 4 -> both("years(" + w + ", " + years + ", " + what + ")", () -> x.years(w, years, what), () -> oracle.years(w, years, what));
            case 5 -> both("lasts(" + w + ", " + what + ")", () -> x.lasts(w, what), () -> oracle.lasts(w, what));
            case 6 -> both("chance(" + w + ", " + chance + ", " + years + ")",
                    () -> x.chance(w, chance, years), () -> oracle.chance(w, chance, years));
            case 7 -> {
                int other = anyWork();
                both("joint(" + w + ", " + other + ", " + what + ")", () -> x.joint(w, other, what), () -> oracle.joint(w, other, what));
            }
            case 8, 9 -> {
                int gives = pick(below(10000), below(100), below(10));
                both("person(" + w + ", " + gives + ")", () -> x.person(w, gives), () -> oracle.person(w, gives));
            }
            case 10 -> both("given(" + w + ", " + what + ")", () -> x.given(w, what), () -> oracle.given(w, what));
            case 11 -> both("more(" + w + ", " + what + ")", () -> x.more(w, what), () -> oracle.more(w, what));
            case 12 -> {
                int law = below(3);
                int by = below(10);
                both("court(" + w + ", " + law + ", " + by + ")", () -> x.court(w, law, by), () -> oracle.court(w, law, by));
            }
            case 13 -> {
                int way = anyWay(w);
                both("near(" + w + ", " + way + ", " + number + ")", () -> x.near(w, way, number), () -> oracle.near(w, way, number));
            }
            case 14 -> drawn(what);
            case 15 -> both("image", () -> {
                x.image();
                return 0;
            }, oracle::image);
            default -> both("restore", () -> x.restore() ? 1 : 0, oracle::restore);
        }
    }

    private void drawn(int what) {
        int seed = random.nextInt();
        int chance = pick(below(1001), 20, 100);
        int years = pick(below(101), below(4), below(4));
        both("drawn(" + years + ", " + chance + ", " + seed + ", " + what + ")",
                () -> x.drawn(years, chance, seed, what), () -> oracle.drawn(years, chance, seed, what));
    }
}
