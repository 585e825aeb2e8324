import java.util.ArrayList;
import java.util.Arrays;
import java.util.Collections;
import java.util.Comparator;
import java.util.List;
import java.util.NoSuchElementException;
import java.util.regex.Matcher;
import java.util.regex.Pattern;

/**
 * The document once more, as plainly as can be and by other means: nothing is kept that can be found
 * from the text and the book, and what is best is found by looking at all that there is.
 */
final class Oracle {
    record Step(int from, int to, int cost, boolean free) { }

    record Bond(String word, int a, int b) { }

    record Way(int cost, int mark) { }

    static final class Work {
        String kind;
        int number;
        int law;
        int otherBy;
        List<Step> items = new ArrayList<>();
        List<Bond> bonds = new ArrayList<>();
        List<Way> ways = new ArrayList<>();

        int kindNumber() {
            return List.of("net", "set", "order").indexOf(kind);
        }

        int free() {
            int bits = 0;
            for (int i = 0; i < items.size(); i++) {
                bits += items.get(i).free ? 1 << i : 0;
            }
            return bits;
        }

        boolean same(int law, int number, int m, int n) {
            int unlike = 0;
            int unlikeFixed = 0;
            for (int bit = 0; bit < 31; bit++) {
                if ((m >> bit & 1) != (n >> bit & 1)) {
                    unlike++;
                    unlikeFixed += isFree(bit) ? 0 : 1;
                }
            }
            return law == 0 ? unlike == 0 : law == 1 ? unlikeFixed == 0 : unlike < number;
        }

        private boolean isFree(int bit) {
            if (!kind.equals("order")) {
                return bit < items.size() && items.get(bit).free;
            }
            int seen = 0;
            for (int j = 0; j < items.size(); j++) {
                for (int i = 0; i < j; i++) {
                    if (seen++ == bit) {
                        return items.get(i).free || items.get(j).free;
                    }
                }
            }
            return false;
        }

        void findWays() {
            if (kind.equals("net")) {
                findPaths(number - 1, 0, 0);
            } else if (kind.equals("set")) {
                for (int mark = 0; mark < 1 << items.size(); mark++) {
                    if (isChoice(mark)) {
                        int all = 0;
                        for (int i = 0; i < items.size(); i++) {
                            all += (mark & 1 << i) != 0 ? items.get(i).cost : 0;
                        }
                        ways.add(new Way(all, mark));
                    }
                }
            } else {
                List<Integer> acts = new ArrayList<>();
                for (int i = 0; i < items.size(); i++) {
                    acts.add(i);
                }
                permute(acts, 0);
            }
            ways.sort(Comparator.comparingInt(Way::cost).thenComparingInt(Way::mark));
        }

        /** From the last place back. */
        private void findPaths(int place, int cost, int mark) {
            if (place == 0) {
                ways.add(new Way(cost, mark));
            }
            for (int i = 0; i < items.size(); i++) {
                Step step = items.get(i);
                if (step.to == place) {
                    findPaths(step.from, cost + step.cost, mark + (1 << i));
                }
            }
        }

        private boolean isChoice(int mark) {
            boolean fits = Integer.bitCount(mark) == number;
            for (Bond bond : bonds) {
                boolean a = (mark & 1 << bond.a) != 0;
                boolean b = (mark & 1 << bond.b) != 0;
                fits &= bond.word.equals("both") ? !(a && b) : !a || b;
            }
            return fits;
        }

        private void permute(List<Integer> acts, int from) {
            if (from >= acts.size()) {
                addOrder(acts);
            }
            for (int i = from; i < acts.size(); i++) {
                Collections.swap(acts, from, i);
                permute(acts, from + 1);
                Collections.swap(acts, from, i);
            }
        }

        private void addOrder(List<Integer> acts) {
            for (Bond bond : bonds) {
                if (acts.indexOf(bond.a) > acts.indexOf(bond.b)) {
                    return;
                }
            }
            int cost = 0;
            int mark = 0;
            int bit = 1;
            for (int j = 0; j < acts.size(); j++) {
                cost += items.get(acts.get(j)).cost * (j + 1);
                for (int i = 0; i < j; i++) {
                    mark += acts.indexOf(i) < acts.indexOf(j) ? bit : 0;
                    bit *= 2;
                }
            }
            ways.add(new Way(cost, mark));
        }

        int indexOf(int mark) {
            for (int i = 0; i < ways.size(); i++) {
                if (ways.get(i).mark == mark) {
                    return i;
                }
            }
            return -1;
        }
    }

    /** What an image keeps. */
    static final class State {
        List<int[]> book = new ArrayList<>();
        List<List<Integer>> told = new ArrayList<>();
        List<List<Integer>> people = new ArrayList<>();
        int[] weights = new int[100];
        int[] refused = new int[4];

        State() {
            Arrays.fill(weights, 1);
            for (int i = 0; i < 6; i++) {
                told.add(new ArrayList<>());
                people.add(new ArrayList<>());
            }
        }

        State copy() {
            State copy = new State();
            copy.book.addAll(book);
            for (int i = 0; i < 6; i++) {
                copy.told.get(i).addAll(told.get(i));
                copy.people.get(i).addAll(people.get(i));
            }
            copy.weights = weights.clone();
            copy.refused = refused.clone();
            return copy;
        }
    }

    private static final class Fault extends RuntimeException {
        private static final long serialVersionUID = 1;
        final int number;
        final int place;

        Fault(int number, int place) {
            this.number = number;
            this.place = place;
        }
    }

    private record Token(String text, int place) {
        boolean isNumber() {
            return !text.isEmpty() && Character.isDigit(text.charAt(0));
        }
    }

    private String tape = "";
    private List<Work> works = new ArrayList<>();
    private State state = new State();
    private State image;
    private int faultPlace = -1;
    private List<Token> tokens;
    private int next;

    // ---- the text

    int feed(int... numbers) {
        if (tape.length() + 20 > 700) {
            return -1;
        }
        StringBuilder fed = new StringBuilder(tape);
        for (int number : numbers) {
            fed.append((char) (number >>> 24)).append((char) (number >>> 16 & 255));
            fed.append((char) (number >>> 8 & 255)).append((char) (number & 255));
        }
        tape = fed.toString();
        return tape.length();
    }

    int town(int n) {
        if (n < 0 || n > tape.length()) {
            throw new IllegalArgumentException();
        }
        String text = tape.substring(0, n);
        tape = "";
        try {
            List<Work> read = readTown(text);
            works = read;
            int[] refused = state.refused;
            state = new State();
            state.refused = refused;
            image = null;
            faultPlace = -1;
            return 0;
        } catch (Fault fault) {
            faultPlace = fault.place;
            state.refused[0]++;
            return fault.number;
        }
    }

    private List<Work> readTown(String text) {
        tokens = new ArrayList<>();
        next = 0;
        Matcher matcher = Pattern.compile("[a-z]+|[0-9]+|[^ \n]", Pattern.DOTALL).matcher(text);
        while (matcher.find()) {
            tokens.add(new Token(matcher.group(), matcher.start()));
        }
        tokens.add(new Token("", text.length()));
        List<Work> read = new ArrayList<>();
        while (!peek("")) {
            Token first = tokens.get(next);
            String kind = word("net", "set", "order");
            if (read.size() == 6) {
                throw new Fault(2, first.place);
            }
            Work work = readWork(kind);
            work.findWays();
            read.add(work);
        }
        return read;
    }

    private Work readWork(String kind) {
        Work work = new Work();
        work.kind = kind;
        if (kind.equals("net")) {
            work.number = number(2, 12);
        }
        if (kind.equals("set")) {
            work.number = number(0, 12);
        }
        if (peek("same")) {
            next++;
            work.law = word("steps", "other").equals("steps") ? 1 : 2;
            work.otherBy = work.law == 2 ? number(1, 9) : 0;
        }
        word(";");
        String item = kind.equals("net") ? "step" : kind.equals("set") ? "part" : "act";
        int most = kind.equals("net") ? 20 : kind.equals("set") ? 12 : 6;
        while (true) {
            Token first = tokens.get(next);
            boolean bond = kind.equals("set") && (peek("both") || peek("needs")) || kind.equals("order") && peek("ahead");
            if (peek(item)) {
                next++;
                if (work.items.size() == most) {
                    throw new Fault(2, first.place);
                }
                readItem(work);
            } else if (bond) {
                next++;
                if (work.bonds.size() == 12) {
                    throw new Fault(2, first.place);
                }
                int a = member(work.items.size());
                Token second = tokens.get(next);
                int b = member(work.items.size());
                if (a == b) {
                    throw new Fault(4, second.place);
                }
                word(";");
                work.bonds.add(new Bond(first.text, a, b));
            } else {
                return work;
            }
        }
    }

    private void readItem(Work work) {
        int from = 0;
        int to = 0;
        if (work.kind.equals("net")) {
            from = member(work.number);
            Token token = tokens.get(next);
            to = member(work.number);
            if (to <= from) {
                throw new Fault(4, token.place);
            }
        }
        int cost = number(0, 999);
        boolean free = word(";", "free").equals("free");
        if (free) {
            word(";");
        }
        work.items.add(new Step(from, to, cost, free));
    }

    private boolean peek(String text) {
        return tokens.get(next).text.equals(text);
    }

    private String word(String... allowed) {
        Token token = tokens.get(next++);
        if (!Arrays.asList(allowed).contains(token.text)) {
            throw new Fault(1, token.place);
        }
        return token.text;
    }

    private int number(int least, int most) {
        Token token = tokens.get(next++);
        if (!token.isNumber()) {
            throw new Fault(1, token.place);
        }
        if (token.text.length() > 4 || Integer.parseInt(token.text) < least || Integer.parseInt(token.text) > most) {
            throw new Fault(2, token.place);
        }
        return Integer.parseInt(token.text);
    }

    private int member(int many) {
        Token token = tokens.get(next);
        int member = number(0, 9999);
        if (member >= many) {
            throw new Fault(3, token.place);
        }
        return member;
    }

    int fault() {
        return faultPlace;
    }

    // ---- what is asked

    private static void what(int what, int whats) {
        if (what < 0 || what >= whats) {
            throw new NoSuchElementException();
        }
    }

    private static void range(int number, int least, int most) {
        if (number < least || number > most) {
            throw new IllegalArgumentException();
        }
    }

    private Work theWork(int work) {
        what(work, works.size());
        return works.get(work);
    }

    private Way theWay(int work, int way) {
        what(way, theWork(work).ways.size());
        return works.get(work).ways.get(way);
    }

    private boolean spent(List<int[]> book, int work, int way, int law, int number) {
        Work w = works.get(work);
        for (int[] one : book) {
            if (one[0] == work && w.same(law, number, w.ways.get(one[1]).mark, w.ways.get(way).mark)) {
                return true;
            }
        }
        return false;
    }

    private List<Integer> leftBy(List<int[]> book, int work) {
        List<Integer> left = new ArrayList<>();
        Work w = works.get(work);
        for (int way = 0; way < w.ways.size(); way++) {
            if (!spent(book, work, way, w.law, w.otherBy)) {
                left.add(way);
            }
        }
        return left;
    }

    private List<Integer> left(int work) {
        return leftBy(state.book, work);
    }

    private int cost(int work, int way) {
        return works.get(work).ways.get(way).cost;
    }

    int count(int what) {
        what(what, 7);
        return new int[] {works.size(), tape.length(), state.book.size(), state.refused[0], state.refused[1],
            state.refused[2], state.refused[3]}[what];
    }

    int work(int work, int what) {
        Work w = theWork(work);
        what(what, 10);
        int done = 0;
        for (int[] one : state.book) {
            done += one[0] == work ? 1 : 0;
        }
        return new int[] {w.kindNumber(), w.ways.size(), w.law, w.otherBy, w.items.size(), left(work).size(), done,
            w.free(), state.told.get(work).size(), state.people.get(work).size()}[what];
    }

    int way(int work, int way, int what) {
        Way w = theWay(work, way);
        what(what, 4);
        int rank = left(work).indexOf(way);
        return new int[] {w.cost, w.mark, rank < 0 ? 1 : 0, rank}[what];
    }

    int find(int work, int mark) {
        return theWork(work).indexOf(mark);
    }

    int same(int work, int way, int other, int what) {
        Way one = theWay(work, way);
        Way two = theWay(work, other);
        what(what, 2);
        Work w = works.get(work);
        return what == 0 ? Integer.bitCount(one.mark ^ two.mark) : w.same(w.law, w.otherBy, one.mark, two.mark) ? 1 : 0;
    }

    int done(int work, int way) {
        theWay(work, way);
        if (!left(work).contains(way) || state.book.size() == 400) {
            state.refused[1]++;
            return 0;
        }
        state.book.add(new int[] {work, way});
        return 1;
    }

    int book(int i, int what) {
        what(what, 2);
        what(i, state.book.size());
        return state.book.get(i)[what];
    }

    int left(int work, int i) {
        theWork(work);
        if (i < 0) {
            throw new NoSuchElementException();
        }
        return i < left(work).size() ? left(work).get(i) : -1;
    }

    int tell(int work, int mark) {
        theWork(work);
        if (state.told.get(work).size() == 100) {
            state.refused[2]++;
            return -1;
        }
        state.told.get(work).add(mark);
        return state.told.get(work).size();
    }

    int judge(int work, int what) {
        Work w = theWork(work);
        what(what, 2);
        List<Integer> told = state.told.get(work);
        for (int i = 0; i < told.size(); i++) {
            int ahead = -1;
            for (int j = i - 1; j >= 0; j--) {
                ahead = w.same(w.law, w.otherBy, told.get(j), told.get(i)) ? j : ahead;
            }
            boolean none = w.indexOf(told.get(i)) < 0;
            if (none || ahead >= 0) {
                return what == 0 ? i : none ? -1 : ahead;
            }
        }
        return -1;
    }

    int apart(int work, int number, int what) {
        theWork(work);
        what(what, 3);
        range(number, 0, 30);
        List<Integer> left = left(work);
        left = left.subList(0, Math.min(14, left.size()));
        int[] best = {-1, 0, 0};
        for (int bits = 0; bits < 1 << left.size(); bits++) {
            if (isApart(work, left, bits, number)) {
                int costs = 0;
                for (int i = 0; i < left.size(); i++) {
                    costs += (bits & 1 << i) != 0 ? cost(work, left.get(i)) : 0;
                }
                int many = Integer.bitCount(bits);
                if (many > best[0] || many == best[0] && costs < best[1]) {
                    best = new int[] {many, costs, bits};
                }
            }
        }
        return best[what];
    }

    private boolean isApart(int work, List<Integer> left, int bits, int number) {
        for (int i = 0; i < left.size(); i++) {
            for (int j = 0; j < i; j++) {
                boolean both = (bits >> i & 1) == 1 && (bits >> j & 1) == 1;
                if (both && same(work, left.get(i), left.get(j), 0) < number) {
                    return false;
                }
            }
        }
        return true;
    }

    int weight(int year, int weight) {
        if (year < 0 || year > 99 || weight < 0 || weight > 99) {
            return 0;
        }
        state.weights[year] = weight;
        return 1;
    }

    int years(int work, int years, int what) {
        theWork(work);
        what(what, 2);
        range(years, 1, 100);
        List<Integer> left = left(work);
        if (left.size() - what < years) {
            return -1;
        }
        int now = assign(work, left, years);
        return what == 0 ? now : assign(work, left.subList(1, left.size()), years) - now;
    }

    /** All that few years can do is looked at; of many years the greatest weights go with the least costs. */
    private int assign(int work, List<Integer> left, int years) {
        if (years <= 4 && left.size() <= 7) {
            return leastOfAll(work, left, 0, years, 0);
        }
        List<Integer> weights = new ArrayList<>();
        for (int year = 0; year < years; year++) {
            weights.add(state.weights[year]);
        }
        weights.sort(Comparator.reverseOrder());
        int sum = 0;
        for (int year = 0; year < years; year++) {
            sum += weights.get(year) * cost(work, left.get(year));
        }
        return sum;
    }

    private int leastOfAll(int work, List<Integer> left, int year, int years, int used) {
        if (year == years) {
            return 0;
        }
        int least = Integer.MAX_VALUE;
        for (int i = 0; i < left.size(); i++) {
            if ((used & 1 << i) == 0) {
                int rest = leastOfAll(work, left, year + 1, years, used | 1 << i);
                least = Math.min(least, state.weights[year] * cost(work, left.get(i)) + rest);
            }
        }
        return least;
    }

    private List<Integer> succession(int work) {
        List<int[]> book = new ArrayList<>(state.book);
        List<Integer> all = new ArrayList<>();
        List<Integer> left = leftBy(book, work);
        while (!left.isEmpty()) {
            all.add(left.get(0));
            book.add(new int[] {work, left.get(0)});
            left = leftBy(book, work);
        }
        return all;
    }

    int lasts(int work, int what) {
        theWork(work);
        what(what, 3);
        List<Integer> all = succession(work);
        int costs = 0;
        for (int way : all) {
            costs += cost(work, way);
        }
        return new int[] {all.size(), all.isEmpty() ? -1 : all.get(all.size() - 1), costs}[what];
    }

    int chance(int work, int chance, int years) {
        theWork(work);
        range(chance, 0, 1000);
        range(years, 0, 100);
        List<Integer> all = succession(work);
        long[] shares = new long[102];
        shares[0] = 1000000000L;
        long costs = 0;
        for (int year = 0; year < years; year++) {
            long[] then = new long[102];
            for (int wanted = 0; wanted <= 100; wanted++) {
                long over = wanted < all.size() ? shares[wanted] * chance / 1000 : 0;
                then[wanted] += shares[wanted] - over;
                then[wanted + 1] += over;
                costs += over > 0 ? over * cost(work, all.get(wanted)) : 0;
            }
            shares = then;
        }
        return Math.toIntExact(costs / 1000000);
    }

    int joint(int work, int other, int what) {
        Work one = theWork(work);
        Work two = theWork(other);
        what(what, 3);
        if (work == other || !one.kind.equals("set") || !two.kind.equals("set")) {
            throw new NoSuchElementException();
        }
        int best = -1;
        int bestCost = Integer.MAX_VALUE;
        for (int mark = 0; mark < 4096; mark++) {
            if (left(work).contains(one.indexOf(mark)) && left(other).contains(two.indexOf(mark))) {
                int cost = 0;
                for (int i = 0; i < 12; i++) {
                    cost += (mark >> i & 1) == 1 ? Math.max(one.items.get(i).cost, two.items.get(i).cost) : 0;
                }
                if (cost < bestCost) {
                    best = mark;
                    bestCost = cost;
                }
            }
        }
        if (best < 0) {
            return what == 2 ? 0 : -1;
        }
        int apart = cost(work, left(work).get(0)) + cost(other, left(other).get(0));
        return new int[] {best, bestCost, apart - bestCost}[what];
    }

    int person(int work, int gives) {
        theWork(work);
        if (gives < 0 || gives > 9999 || state.people.get(work).size() == 12) {
            state.refused[3]++;
            return -1;
        }
        state.people.get(work).add(gives);
        return state.people.get(work).size();
    }

    int given(int work, int what) {
        theWork(work);
        what(what, 4);
        List<Integer> people = new ArrayList<>(state.people.get(work));
        people.sort(Comparator.reverseOrder());
        List<Integer> left = left(work);
        int best = 0;
        int many = 0;
        for (int k = 0; k <= Math.min(people.size(), left.size()); k++) {
            int sum = 0;
            for (int i = 0; i < k; i++) {
                sum += people.get(i) - cost(work, left.get(i));
            }
            if (sum > best) {
                best = sum;
                many = k;
            }
        }
        List<Integer> lows = new ArrayList<>(List.of(0));
        List<Integer> highs = new ArrayList<>();
        if (many > 0) {
            lows.add(cost(work, left.get(many - 1)));
            highs.add(people.get(many - 1));
        }
        if (many < people.size()) {
            lows.add(people.get(many));
        }
        if (many < left.size()) {
            highs.add(cost(work, left.get(many)));
        }
        return new int[] {best, many, Collections.max(lows), highs.isEmpty() ? 9999 : Collections.min(highs)}[what];
    }

    int more(int work, int what) {
        Work w = theWork(work);
        what(what, 3);
        if (!w.kind.equals("net")) {
            throw new NoSuchElementException();
        }
        int[] best = {-1, -1, -1};
        for (int from = 0; from < w.number; from++) {
            for (int to = from + 1; to < w.number; to++) {
                Work then = new Work();
                then.kind = "net";
                then.number = w.number;
                then.items.addAll(w.items);
                then.items.add(new Step(from, to, 0, false));
                then.findWays();
                if (then.ways.size() > best[2]) {
                    best = new int[] {from, to, then.ways.size()};
                }
            }
        }
        return best[what];
    }

    int court(int work, int law, int number) {
        Work w = theWork(work);
        range(law, 0, 2);
        if (law == 2) {
            range(number, 1, 9);
        }
        int left = 0;
        for (int way = 0; way < w.ways.size(); way++) {
            left += spent(state.book, work, way, law, number) ? 0 : 1;
        }
        return left;
    }

    int near(int work, int way, int number) {
        theWay(work, way);
        range(number, 0, 30);
        int found = 0;
        for (int other = 0; other < works.get(work).ways.size(); other++) {
            found += same(work, way, other, 0) < number ? 1 : 0;
        }
        return found;
    }

    int drawn(int years, int chance, int seed, int what) {
        what(what, 3);
        range(years, 1, 100);
        range(chance, 0, 1000);
        int[] sums = new int[3];
        long now = seed & 0xffffffffL;
        for (int year = 0; year < years; year++) {
            for (int work = 0; work < works.size(); work++) {
                now = (now * 1103515245L + 12345L) & 0xffffffffL;
                if ((now / 65536 & 32767) % 1000 < chance) {
                    List<Integer> left = left(work);
                    if (left.isEmpty() || state.book.size() == 400) {
                        sums[2]++;
                    } else {
                        state.book.add(new int[] {work, left.get(0)});
                        sums[1]++;
                        sums[0] += cost(work, left.get(0));
                    }
                }
            }
        }
        return sums[what];
    }

    int image() {
        image = state.copy();
        return 0;
    }

    int restore() {
        if (image == null) {
            return 0;
        }
        state = image.copy();
        return 1;
    }
}
