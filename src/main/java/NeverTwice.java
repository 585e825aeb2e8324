import java.util.Arrays;
import java.util.NoSuchElementException;

/** A town of works, none of which is ever done twice in the same way. */
public final class NeverTwice {
    public static final int NONE = -1;

    private static final int NET = 0;
    private static final int SET = 1;
    private static final int ORDER = 2;

    private static final int ROW = 0;
    private static final int STEPS = 1;
    private static final int OTHER = 2;

    private static final int MOST_BYTES = 700;
    private static final int MOST_WORKS = 6;
    private static final int MOST_PLACES = 12;
    private static final int MOST_STEPS = 20;
    private static final int MOST_PARTS = 12;
    private static final int MOST_ACTS = 6;
    private static final int MOST_BONDS = 12;
    private static final int MOST_COST = 999;
    private static final int MOST_NUMBER_OF_OTHER = 9;
    private static final int MOST_IN_BOOK = 400;
    private static final int MOST_TOLD = 100;
    private static final int MOST_PEOPLE = 12;
    private static final int MOST_YEARS = 100;
    private static final int MOST_WEIGHT = 99;
    private static final int MOST_GIVES = 9999;
    private static final int MOST_APART = 14;
    private static final int MOST_UNLIKE = 30;
    private static final int THOUSAND = 1000;

    /**
     * A last place with k of m steps leading to it has at most k times as many ways as the other
     * m - k steps can make: 20 steps make at most 3*3*3*3*3*3*2 (12 parts 924, 6 acts 720).
     */
    private static final int MOST_WAYS = 1458;

    private static final int MARK_BITS = 20;
    private static final int ALL_OF_MARK = (1 << MARK_BITS) - 1;

    private static final int TEXTS = 0;
    private static final int WAYS = 1;
    private static final int MARKS = 2;
    private static final int PEOPLE = 3;

    private final Tape tape = new Tape();
    private final Reader reader = new Reader(tape);
    private final Plan[] spare = new Plan[MOST_WORKS];
    private final Work[] works = new Work[MOST_WORKS];
    private final Ledger ledger = new Ledger();
    private final Ledger kept = new Ledger();
    private final Succession succession = new Succession();
    private final Spread spread = new Spread();
    private final Calendar calendar = new Calendar();
    private final Market market = new Market();
    private final Roads roads = new Roads();
    private final boolean[] condemned = new boolean[MOST_WAYS];
    private int workCount;
    private int faultPlace;
    private boolean hasImage;

    public NeverTwice() {
        for (int i = 0; i < MOST_WORKS; i++) {
            spare[i] = new Plan();
            works[i] = new Work(new Plan());
        }
        faultPlace = NONE;
    }

    public int feed(int a, int b, int c, int d, int e) {
        if (tape.length + 20 > MOST_BYTES) {
            return NONE;
        }
        tape.take(a);
        tape.take(b);
        tape.take(c);
        tape.take(d);
        tape.take(e);
        return tape.length;
    }

    public int town(int n) throws IllegalArgumentException {
        if (n < 0 || n > tape.length) {
            throw new IllegalArgumentException("the tape has not so many bytes");
        }
        int fault = reader.readTown(n, spare);
        tape.length = 0;
        if (fault != 0) {
            faultPlace = reader.start;
            ledger.refuse(TEXTS);
            return fault;
        }
        faultPlace = NONE;
        settleTown(reader.works);
        return 0;
    }

    private void settleTown(int found) {
        workCount = Math.min(found, MOST_WORKS);
        for (int i = 0; i < workCount; i++) {
            Plan old = works[i].plan;
            works[i].plan = spare[i];
            spare[i] = old;
            works[i].listWays();
        }
        ledger.clearForTown();
        hasImage = false;
    }

    public int fault() {
        return faultPlace;
    }

    public int count(int what) throws NoSuchElementException {
        switch (what) {
            case 0:
                return workCount;
            case 1:
                return tape.length;
            case 2:
                return ledger.booked;
            case 3:
            case 4:
            case 5:
            case 6:
                return ledger.refused(what - 3);
            default:
                throw new NoSuchElementException("no such what");
        }
    }

    public int work(int work, int what) throws NoSuchElementException {
        Work asked = workOf(work);
        switch (what) {
            case 0:
                return asked.plan.kind;
            case 1:
                return asked.count;
            case 2:
                return asked.plan.law;
            case 3:
                return asked.plan.otherBy;
            case 4:
                return asked.plan.items;
            case 5:
                return asked.unspent;
            case 6:
                return ledger.bookedOf(work);
            case 7:
                return asked.plan.free;
            case 8:
                return ledger.toldOf(work);
            case 9:
                return ledger.peopleOf(work);
            default:
                throw new NoSuchElementException("no such what");
        }
    }

    public int way(int work, int way, int what) throws NoSuchElementException {
        Work asked = workOf(work);
        refuseUnlessWay(asked, way);
        switch (what) {
            case 0:
                return asked.costOf(way);
            case 1:
                return asked.markOf(way);
            case 2:
                return asked.isSpent(way) ? 1 : 0;
            case 3:
                return asked.rankOf(way);
            default:
                throw new NoSuchElementException("no such what");
        }
    }

    public int find(int work, int mark) throws NoSuchElementException {
        return workOf(work).withMark(mark);
    }

    public int same(int work, int way, int other, int what) throws NoSuchElementException {
        Work asked = workOf(work);
        refuseUnlessWay(asked, way);
        refuseUnlessWay(asked, other);
        refuseUnlessWhat(what, 2);
        int mark = asked.markOf(way);
        int otherMark = asked.markOf(other);
        if (what == 0) {
            return Integer.bitCount(mark ^ otherMark);
        }
        return asked.areSame(mark, otherMark) ? 1 : 0;
    }

    public boolean done(int work, int way) throws NoSuchElementException {
        Work asked = workOf(work);
        refuseUnlessWay(asked, way);
        if (asked.isSpent(way) || ledger.bookIsFull()) {
            ledger.refuse(WAYS);
            return false;
        }
        ledger.enter(work, way);
        asked.spendLike(way);
        return true;
    }

    public int book(int i, int what) throws NoSuchElementException {
        refuseUnlessWhat(what, 2);
        if (i < 0 || i >= ledger.booked) {
            throw new NoSuchElementException("no such one in the book");
        }
        return what == 0 ? ledger.bookWork(i) : ledger.bookWay(i);
    }

    public int left(int work, int i) throws NoSuchElementException {
        Work asked = workOf(work);
        if (i < 0) {
            throw new NoSuchElementException("below 0");
        }
        return asked.unspentAt(i);
    }

    public int tell(int work, int mark) throws NoSuchElementException {
        workOf(work);
        if (ledger.toldOf(work) >= MOST_TOLD) {
            ledger.refuse(MARKS);
            return NONE;
        }
        return ledger.addTold(work, mark);
    }

    public int judge(int work, int what) throws NoSuchElementException {
        Work asked = workOf(work);
        refuseUnlessWhat(what, 2);
        int many = ledger.toldOf(work);
        for (int i = 0; i < many; i++) {
            int mark = ledger.toldAt(work, i);
            if (asked.withMark(mark) == NONE) {
                return what == 0 ? i : NONE;
            }
            for (int ahead = 0; ahead < i; ahead++) {
                if (asked.areSame(ledger.toldAt(work, ahead), mark)) {
                    return what == 0 ? i : ahead;
                }
            }
        }
        return NONE;
    }

    public int apart(int work, int number, int what) throws NoSuchElementException, IllegalArgumentException {
        Work asked = workOf(work);
        refuseUnlessWhat(what, 3);
        refuseUnlessWithin(number, 0, MOST_UNLIKE);
        spread.seek(asked, number);
        switch (what) {
            case 0:
                return spread.bestMany;
            case 1:
                return spread.bestCost;
            default:
                return spread.bestBits;
        }
    }

    public boolean weight(int year, int weight) {
        if (year < 0 || year >= MOST_YEARS || weight < 0 || weight > MOST_WEIGHT) {
            return false;
        }
        ledger.setWeight(year, weight);
        return true;
    }

    public int years(int work, int years, int what) throws NoSuchElementException, IllegalArgumentException {
        Work asked = workOf(work);
        refuseUnlessWhat(what, 2);
        refuseUnlessWithin(years, 1, MOST_YEARS);
        int without = what == 0 ? 0 : 1;
        if (asked.unspent - without < years) {
            return NONE;
        }
        calendar.countWeights(ledger, years);
        int least = calendar.leastCost(asked, 0);
        return what == 0 ? least : calendar.leastCost(asked, without) - least;
    }

    public int lasts(int work, int what) throws NoSuchElementException {
        Work asked = workOf(work);
        refuseUnlessWhat(what, 3);
        succession.follow(asked, MOST_WAYS);
        switch (what) {
            case 0:
                return succession.many;
            case 1:
                return succession.last;
            default:
                return succession.total;
        }
    }

    public int chance(int work, int chance, int years) throws NoSuchElementException, IllegalArgumentException {
        Work asked = workOf(work);
        refuseUnlessWithin(chance, 0, THOUSAND);
        refuseUnlessWithin(years, 0, MOST_YEARS);
        succession.follow(asked, MOST_YEARS);
        return succession.expected(chance, years);
    }

    public int joint(int work, int other, int what) throws NoSuchElementException {
        Work one = workOf(work);
        Work two = workOf(other);
        refuseUnlessWhat(what, 3);
        if (work == other || one.plan.kind != SET || two.plan.kind != SET) {
            throw new NoSuchElementException("not two sets");
        }
        int mark = one.cheapestShared(two);
        if (mark == NONE) {
            return what == 2 ? 0 : NONE;
        }
        int cost = one.plan.greaterCosts(two.plan, mark);
        switch (what) {
            case 0:
                return mark;
            case 1:
                return cost;
            default:
                return one.costOf(one.nextUnspent(0)) + two.costOf(two.nextUnspent(0)) - cost;
        }
    }

    public int person(int work, int gives) throws NoSuchElementException {
        workOf(work);
        if (gives < 0 || gives > MOST_GIVES || ledger.peopleOf(work) >= MOST_PEOPLE) {
            ledger.refuse(PEOPLE);
            return NONE;
        }
        return ledger.addPerson(work, gives);
    }

    public int given(int work, int what) throws NoSuchElementException {
        Work asked = workOf(work);
        refuseUnlessWhat(what, 4);
        market.line(ledger, work);
        market.settle(asked);
        switch (what) {
            case 0:
                return market.gain;
            case 1:
                return market.served;
            case 2:
                return market.leastPrice;
            default:
                return market.greatestPrice;
        }
    }

    public int more(int work, int what) throws NoSuchElementException {
        Work asked = workOf(work);
        refuseUnlessWhat(what, 3);
        if (asked.plan.kind != NET) {
            throw new NoSuchElementException("no net");
        }
        roads.seek(asked.plan);
        switch (what) {
            case 0:
                return roads.bestFrom;
            case 1:
                return roads.bestTo;
            default:
                return asked.count + roads.bestNew;
        }
    }

    public int court(int work, int law, int number) throws NoSuchElementException, IllegalArgumentException {
        Work asked = workOf(work);
        refuseUnlessWithin(law, ROW, OTHER);
        if (law == OTHER) {
            refuseUnlessWithin(number, 1, MOST_NUMBER_OF_OTHER);
        }
        for (int way = 0; way < condemned.length; way++) {
            condemned[way] = false;
        }
        int unspent = asked.count;
        for (int i = 0; i < ledger.booked; i++) {
            if (ledger.bookWork(i) == work) {
                unspent -= asked.setSame(condemned, law, number, ledger.bookWay(i), 0);
            }
        }
        return unspent;
    }

    public int near(int work, int way, int number) throws NoSuchElementException, IllegalArgumentException {
        Work asked = workOf(work);
        refuseUnlessWay(asked, way);
        refuseUnlessWithin(number, 0, MOST_UNLIKE);
        int mark = asked.markOf(way);
        int found = 0;
        for (int i = 0; i < asked.count; i++) {
            if (Integer.bitCount(asked.markOf(i) ^ mark) < number) {
                found++;
            }
        }
        return found;
    }

    public int drawn(int years, int chance, int seed, int what) throws NoSuchElementException, IllegalArgumentException {
        refuseUnlessWhat(what, 3);
        refuseUnlessWithin(years, 1, MOST_YEARS);
        refuseUnlessWithin(chance, 0, THOUSAND);
        int costs = 0;
        int doneOnes = 0;
        int failed = 0;
        int state = seed;
        for (int year = 0; year < years; year++) {
            for (int work = 0; work < workCount; work++) {
                state = state * 1103515245 + 12345;
                if ((state >>> 16 & 0x7fff) % THOUSAND < chance) {
                    int cost = doCheapest(work);
                    failed += cost == NONE ? 1 : 0;
                    doneOnes += cost == NONE ? 0 : 1;
                    costs += cost == NONE ? 0 : cost;
                }
            }
        }
        switch (what) {
            case 0:
                return costs;
            case 1:
                return doneOnes;
            default:
                return failed;
        }
    }

    /** The cost of the cheapest one left, which is done; NONE if none can be. */
    private int doCheapest(int work) throws NoSuchElementException {
        Work asked = workOf(work);
        int way = asked.nextUnspent(0);
        if (way == NONE || ledger.bookIsFull()) {
            return NONE;
        }
        ledger.enter(work, way);
        asked.spendLike(way);
        return asked.costOf(way);
    }

    public void image() {
        kept.copy(ledger);
        hasImage = true;
    }

    public boolean restore() {
        if (!hasImage) {
            return false;
        }
        ledger.copy(kept);
        for (int i = 0; i < workCount; i++) {
            works[i].unspendAll();
        }
        for (int i = 0; i < ledger.booked; i++) {
            int work = ledger.bookWork(i);
            if (work >= 0 && work < workCount) {
                works[work].spendLike(ledger.bookWay(i));
            }
        }
        return true;
    }

    private Work workOf(int work) throws NoSuchElementException {
        if (work < 0 || work >= workCount) {
            throw new NoSuchElementException("no such work");
        }
        return works[work];
    }

    private static void refuseUnlessWay(Work work, int way) throws NoSuchElementException {
        if (!work.has(way)) {
            throw new NoSuchElementException("no such way");
        }
    }

    private static void refuseUnlessWhat(int what, int whats) throws NoSuchElementException {
        if (what < 0 || what >= whats) {
            throw new NoSuchElementException("no such what");
        }
    }

    private static void refuseUnlessWithin(int number, int least, int most) throws IllegalArgumentException {
        if (number < least || number > most) {
            throw new IllegalArgumentException("a number that is not as told");
        }
    }

    /** The element of a row; 0 beside it. */
    private static int at(int[] row, int i) {
        return i >= 0 && i < row.length ? row[i] : 0;
    }

    /** Puts an element into a row; nothing beside it. */
    private static void put(int[] row, int i, int value) {
        if (i >= 0 && i < row.length) {
            row[i] = value;
        }
    }

    /** The bytes that were fed and are no town yet. */
    private static final class Tape {
        private final byte[] bytes = new byte[MOST_BYTES];
        private int length;

        void take(int number) {
            for (int shift = 24; shift >= 0; shift -= 8) {
                if (length < bytes.length) {
                    bytes[length] = (byte) (number >> shift);
                    length++;
                }
            }
        }

        int byteAt(int i) {
            return i >= 0 && i < bytes.length ? bytes[i] : 0;
        }
    }

    /** What the text tells of one work. */
    private static final class Plan {
        private int kind;
        private int number;
        private int law;
        private int otherBy;
        private int items;
        private int bonds;
        private int free;
        private final int[] costs = new int[MOST_STEPS];
        private final int[] starts = new int[MOST_STEPS];
        private final int[] ends = new int[MOST_STEPS];
        private final int[] needed = new int[MOST_PARTS];
        private final int[] barred = new int[MOST_PARTS];

        void begin(int newKind) {
            kind = newKind;
            number = 0;
            law = ROW;
            otherBy = 0;
            items = 0;
            bonds = 0;
            free = 0;
            Arrays.fill(needed, 0);
            Arrays.fill(barred, 0);
        }

        int mostItems() {
            return kind == NET ? MOST_STEPS : kind == SET ? MOST_PARTS : MOST_ACTS;
        }

        void addItem(int start, int end, int cost, boolean isFree) {
            put(starts, items, start);
            put(ends, items, end);
            put(costs, items, cost);
            if (isFree) {
                free |= 1 << items;
            }
            items++;
        }

        void bar(int a, int b) {
            put(barred, a, at(barred, a) | 1 << b);
        }

        /** One that can be there only with another (in an order: behind it). */
        void need(int a, int b) {
            put(needed, a, at(needed, a) | 1 << b);
        }

        int costAt(int item) {
            return at(costs, item);
        }

        int startAt(int step) {
            return at(starts, step);
        }

        int endAt(int step) {
            return at(ends, step);
        }

        /** Whether an act can stand behind those that stand already. */
        boolean canFollow(int act, int standing) {
            return (standing >> act & 1) == 0 && (at(needed, act) & ~standing) == 0;
        }

        boolean isChoice(int mark) {
            if (Integer.bitCount(mark) != number) {
                return false;
            }
            for (int part = 0; part < items; part++) {
                boolean chosen = (mark >> part & 1) != 0;
                if (chosen && ((at(needed, part) & ~mark) != 0 || (at(barred, part) & mark) != 0)) {
                    return false;
                }
            }
            return true;
        }

        /** What the parts of a mark cost, each by the greater cost of both plans. */
        int greaterCosts(Plan other, int mark) {
            int cost = 0;
            for (int part = 0; part < items; part++) {
                if ((mark >> part & 1) != 0) {
                    cost += Math.max(costAt(part), other.costAt(part));
                }
            }
            return cost;
        }

        /** The bits of a mark that count for nothing by the law of steps. */
        int looseBits() {
            if (kind != ORDER) {
                return free;
            }
            int bits = 0;
            for (int j = 1; j < items; j++) {
                for (int i = 0; i < j; i++) {
                    if ((free >> i & 1) != 0 || (free >> j & 1) != 0) {
                        bits |= coupleBit(i, j);
                    }
                }
            }
            return bits;
        }

        /** The bit of two acts, i below j. */
        static int coupleBit(int i, int j) {
            return 1 << j * (j - 1) / 2 + i;
        }
    }

    /** Reads a text into plans, up to its first fault. */
    private static final class Reader {
        private static final int END = 0;
        private static final int WORD = 1;
        private static final int NUMBER = 2;
        private static final int SIGN = 3;
        private static final int ALIEN = 4;

        private static final int MISPLACED = 1;
        private static final int TOO_MUCH = 2;
        private static final int UNKNOWN = 3;
        private static final int NOT_OTHER = 4;

        private final Tape tape;
        private int length;
        private int next;
        private int token;
        private int start;
        private int digits;
        private int value;
        private int fault;
        private int works;

        Reader(Tape tape) {
            this.tape = tape;
        }

        /** 0, or the fault, which is at start then. */
        int readTown(int textLength, Plan[] plans) {
            length = textLength;
            next = 0;
            fault = 0;
            works = 0;
            advance();
            for (int i = 0; i <= MOST_BYTES && token != END && fault == 0; i++) {
                int kind = isWord("net") ? NET : isWord("set") ? SET : isWord("order") ? ORDER : NONE;
                if (kind != NONE) {
                    readHead(plans, kind);
                } else {
                    readMore(plans);
                }
            }
            return fault;
        }

        /** The first row of a work, up to its sign. */
        private boolean readHead(Plan[] plans, int kind) {
            if (works < 0 || works >= plans.length) {
                return fail(TOO_MUCH);
            }
            Plan plan = plans[works];
            works++;
            plan.begin(kind);
            advance();
            return readNumberOf(plan) && readLaw(plan) && readSign();
        }

        /** A further row of the latest work, up to its sign. */
        private boolean readMore(Plan[] plans) {
            if (works < 1 || works > plans.length) {
                return fail(MISPLACED);
            }
            Plan plan = plans[works - 1];
            if (isItem(plan)) {
                return readItem(plan);
            }
            return isBond(plan) ? readBond(plan) : fail(MISPLACED);
        }

        private boolean readNumberOf(Plan plan) {
            if (plan.kind == NET) {
                plan.number = readNumber(2, MOST_PLACES);
            } else if (plan.kind == SET) {
                plan.number = readNumber(0, MOST_PARTS);
            }
            return fault == 0;
        }

        private boolean readLaw(Plan plan) {
            if (!isWord("same")) {
                return true;
            }
            advance();
            if (isWord("steps")) {
                plan.law = STEPS;
                advance();
                return true;
            }
            if (!isWord("other")) {
                return fail(MISPLACED);
            }
            plan.law = OTHER;
            advance();
            plan.otherBy = readNumber(1, MOST_NUMBER_OF_OTHER);
            return fault == 0;
        }

        private boolean isItem(Plan plan) {
            return isWord(plan.kind == NET ? "step" : plan.kind == SET ? "part" : "act");
        }

        private boolean isBond(Plan plan) {
            if (plan.kind == SET) {
                return isWord("both") || isWord("needs");
            }
            return plan.kind == ORDER && isWord("ahead");
        }

        private boolean readItem(Plan plan) {
            if (plan.items >= plan.mostItems()) {
                return fail(TOO_MUCH);
            }
            advance();
            int from = 0;
            int to = 0;
            if (plan.kind == NET) {
                from = readMember(plan.number, NONE, NONE);
                to = fault == 0 ? readMember(plan.number, from, NONE) : 0;
            }
            int cost = fault == 0 ? readNumber(0, MOST_COST) : 0;
            boolean isFree = fault == 0 && isWord("free");
            if (isFree) {
                advance();
            }
            if (fault != 0 || !readSign()) {
                return false;
            }
            plan.addItem(from, to, cost, isFree);
            return true;
        }

        private boolean readBond(Plan plan) {
            if (plan.bonds >= MOST_BONDS) {
                return fail(TOO_MUCH);
            }
            boolean bars = isWord("both");
            advance();
            int a = readMember(plan.items, NONE, NONE);
            int b = fault == 0 ? readMember(plan.items, NONE, a) : 0;
            if (fault != 0 || !readSign()) {
                return false;
            }
            plan.bonds++;
            if (bars) {
                plan.bar(a, b);
            } else if (plan.kind == SET) {
                plan.need(a, b);
            } else {
                plan.need(b, a);
            }
            return true;
        }

        private int readNumber(int least, int most) {
            if (token != NUMBER) {
                fail(MISPLACED);
            } else if (digits > 4 || value < least || value > most) {
                fail(TOO_MUCH);
            }
            int read = value;
            if (fault == 0) {
                advance();
            }
            return read;
        }

        /** One of so many, greater than floor and not the one that is barred. */
        private int readMember(int many, int floor, int barred) {
            if (token != NUMBER) {
                fail(MISPLACED);
            } else if (digits > 4) {
                fail(TOO_MUCH);
            } else if (value >= many) {
                fail(UNKNOWN);
            } else if (value <= floor || value == barred) {
                fail(NOT_OTHER);
            }
            int read = value;
            if (fault == 0) {
                advance();
            }
            return read;
        }

        private boolean readSign() {
            if (token != SIGN) {
                return fail(MISPLACED);
            }
            advance();
            return true;
        }

        private boolean fail(int what) {
            fault = what;
            return false;
        }

        private boolean isWord(String word) {
            if (token != WORD || next - start != word.length()) {
                return false;
            }
            for (int i = 0; i < word.length(); i++) {
                if (tape.byteAt(start + i) != word.charAt(i)) {
                    return false;
                }
            }
            return true;
        }

        /** Goes to the next token, which is from start up to next. */
        private void advance() {
            while (next < length && isBlank(tape.byteAt(next))) {
                next++;
            }
            start = next;
            digits = 0;
            value = 0;
            token = next < length ? kindOf(tape.byteAt(next)) : END;
            boolean goesOn = next < length;
            while (next < length && goesOn) {
                if (token == NUMBER) {
                    addDigit(tape.byteAt(next) - '0');
                }
                next++;
                goesOn = (token == WORD || token == NUMBER) && kindOf(tape.byteAt(next)) == token;
            }
        }

        /** More than four digits are counted, but no number. */
        private void addDigit(int digit) {
            digits++;
            if (digits <= 4) {
                value = value * 10 + digit;
            }
        }

        private static boolean isBlank(int sign) {
            return sign == 32 || sign == 10;
        }

        private static int kindOf(int sign) {
            if (sign >= 'a' && sign <= 'z') {
                return WORD;
            }
            if (sign >= '0' && sign <= '9') {
                return NUMBER;
            }
            return sign == ';' ? SIGN : ALIEN;
        }
    }

    /** A work: its plan, all its ways in their order, and which of these are spent. */
    private static final class Work {
        private Plan plan;
        private int count;
        private int unspent;
        private int loose;
        /** The cost above the bits of the mark, so that the order of the keys is that of the ways. */
        private final long[] keys = new long[MOST_WAYS];
        private final boolean[] spent = new boolean[MOST_WAYS];

        Work(Plan plan) {
            this.plan = plan;
        }

        void listWays() {
            count = 0;
            if (plan.kind == NET) {
                walk(0, 0, 0, 0);
            } else if (plan.kind == SET) {
                choose();
            } else {
                line(0, 0, 0, 0);
            }
            sort();
            loose = plan.looseBits();
            unspendAll();
        }

        private void addWay(int mark, int cost) {
            if (count < keys.length) {
                keys[count] = (long) cost << MARK_BITS | mark;
                count++;
            }
        }

        private void walk(int place, int mark, int cost, int depth) {
            if (place == plan.number - 1) {
                addWay(mark, cost);
                return;
            }
            // each step leads to a greater place, so that no way is longer
            if (depth >= MOST_PLACES) {
                return;
            }
            for (int step = 0; step < plan.items; step++) {
                if (plan.startAt(step) == place) {
                    walk(plan.endAt(step), mark | 1 << step, cost + plan.costAt(step), depth + 1);
                }
            }
        }

        private void choose() {
            for (int mark = 0; mark < 1 << plan.items && mark < 1 << MOST_PARTS; mark++) {
                if (plan.isChoice(mark)) {
                    addWay(mark, plan.greaterCosts(plan, mark));
                }
            }
        }

        /** Lines up the acts that do not stand yet behind those that do, of which there are so many as depth. */
        private void line(int standing, int mark, int cost, int depth) {
            if (depth >= plan.items || depth >= MOST_ACTS) {
                addWay(mark, cost);
                return;
            }
            for (int act = 0; act < plan.items; act++) {
                if (plan.canFollow(act, standing)) {
                    int more = cost + plan.costAt(act) * (depth + 1);
                    line(standing | 1 << act, mark | bitsBehind(act, standing), more, depth + 1);
                }
            }
        }

        private static int bitsBehind(int act, int standing) {
            int bits = 0;
            for (int lower = 0; lower < act; lower++) {
                if ((standing >> lower & 1) != 0) {
                    bits |= Plan.coupleBit(lower, act);
                }
            }
            return bits;
        }

        /** Shell's sort: a third of the gap each time. */
        private void sort() {
            for (int gap = 1093; gap > 0; gap /= 3) {
                for (int i = gap; i < count && i < keys.length; i++) {
                    long key = keys[i];
                    int j = i;
                    while (j >= gap && keys[j - gap] > key) {
                        keys[j] = keys[j - gap];
                        j -= gap;
                    }
                    keys[j] = key;
                }
            }
        }

        boolean has(int way) {
            return way >= 0 && way < count && way < MOST_WAYS;
        }

        int costOf(int way) {
            return has(way) ? (int) (keys[way] >> MARK_BITS) : 0;
        }

        int markOf(int way) {
            return has(way) ? (int) keys[way] & ALL_OF_MARK : 0;
        }

        boolean isSpent(int way) {
            return !has(way) || spent[way];
        }

        int withMark(int mark) {
            for (int way = 0; way < count; way++) {
                if (markOf(way) == mark) {
                    return way;
                }
            }
            return NONE;
        }

        /** The first one left from a way on. */
        int nextUnspent(int way) {
            for (int i = way < 0 ? 0 : way; i < count; i++) {
                if (!isSpent(i)) {
                    return i;
                }
            }
            return NONE;
        }

        int unspentAt(int rank) {
            int seen = 0;
            for (int way = 0; way < count; way++) {
                if (!isSpent(way)) {
                    if (seen == rank) {
                        return way;
                    }
                    seen++;
                }
            }
            return NONE;
        }

        int rankOf(int way) {
            if (isSpent(way)) {
                return NONE;
            }
            int rank = 0;
            for (int i = 0; i < way; i++) {
                if (!isSpent(i)) {
                    rank++;
                }
            }
            return rank;
        }

        boolean areSame(int mark, int other) {
            return Integer.bitCount((mark ^ other) & bitsThatCount(plan.law)) < unlikeOnes(plan.law, plan.otherBy);
        }

        /** Sets in a row those, from one on, that are the same by a law as a way: how many are set newly. */
        int setSame(boolean[] row, int law, int number, int way, int from) {
            if (!has(way) || way >= row.length || from < 0) {
                return 0;
            }
            int found = row[way] ? 0 : 1;
            row[way] = true;
            int bits = bitsThatCount(law);
            int unlike = unlikeOnes(law, number);
            if (bits == ALL_OF_MARK && unlike == 1) {
                return found;
            }
            int mark = markOf(way);
            for (int i = from; i < count && i < row.length && i < keys.length; i++) {
                if (!row[i] && Integer.bitCount(((int) keys[i] ^ mark) & bits) < unlike) {
                    row[i] = true;
                    found++;
                }
            }
            return found;
        }

        private int bitsThatCount(int law) {
            return law == STEPS ? ALL_OF_MARK & ~loose : ALL_OF_MARK;
        }

        /** By fewer bits unlike than these two ways are the same by a law. */
        private static int unlikeOnes(int law, int number) {
            return law == OTHER ? number : 1;
        }

        void unspendAll() {
            unspent = count;
            for (int way = 0; way < spent.length; way++) {
                spent[way] = false;
            }
        }

        void spendLike(int way) {
            unspent -= setSame(spent, plan.law, plan.otherBy, way, 0);
        }

        /** The mark of the cheapest choice of two sets that is left in both. */
        int cheapestShared(Work other) {
            int best = NONE;
            int bestCost = 0;
            for (int way = 0; way < count; way++) {
                if (isSpent(way)) {
                    continue;
                }
                int mark = markOf(way);
                int cost = plan.greaterCosts(other.plan, mark);
                boolean better = best == NONE || cost < bestCost || cost == bestCost && mark < best;
                if (better && !other.isSpent(other.withMark(mark))) {
                    best = mark;
                    bestCost = cost;
                }
            }
            return best;
        }
    }

    /** What changes by calls and what an image keeps. */
    private static final class Ledger {
        private int booked;
        private final int[] bookWorks = new int[MOST_IN_BOOK];
        private final int[] bookWays = new int[MOST_IN_BOOK];
        private final int[] toldCounts = new int[MOST_WORKS];
        private final int[] told = new int[MOST_WORKS * MOST_TOLD];
        private final int[] peopleCounts = new int[MOST_WORKS];
        private final int[] people = new int[MOST_WORKS * MOST_PEOPLE];
        private final int[] weights = new int[MOST_YEARS];
        private final int[] refusals = new int[4];

        Ledger() {
            Arrays.fill(weights, 1);
        }

        /** All but the refusals, which no town ends. */
        void clearForTown() {
            booked = 0;
            Arrays.fill(toldCounts, 0);
            Arrays.fill(peopleCounts, 0);
            Arrays.fill(weights, 1);
        }

        void copy(Ledger other) {
            booked = other.booked;
            System.arraycopy(other.bookWorks, 0, bookWorks, 0, MOST_IN_BOOK);
            System.arraycopy(other.bookWays, 0, bookWays, 0, MOST_IN_BOOK);
            System.arraycopy(other.toldCounts, 0, toldCounts, 0, MOST_WORKS);
            System.arraycopy(other.told, 0, told, 0, MOST_WORKS * MOST_TOLD);
            System.arraycopy(other.peopleCounts, 0, peopleCounts, 0, MOST_WORKS);
            System.arraycopy(other.people, 0, people, 0, MOST_WORKS * MOST_PEOPLE);
            System.arraycopy(other.weights, 0, weights, 0, MOST_YEARS);
            System.arraycopy(other.refusals, 0, refusals, 0, 4);
        }

        int refused(int what) {
            return at(refusals, what);
        }

        void refuse(int what) {
            put(refusals, what, at(refusals, what) + 1);
        }

        boolean bookIsFull() {
            return booked >= MOST_IN_BOOK;
        }

        void enter(int work, int way) {
            put(bookWorks, booked, work);
            put(bookWays, booked, way);
            booked++;
        }

        int bookWork(int i) {
            return at(bookWorks, i);
        }

        int bookWay(int i) {
            return at(bookWays, i);
        }

        int bookedOf(int work) {
            int many = 0;
            for (int i = 0; i < booked; i++) {
                if (bookWork(i) == work) {
                    many++;
                }
            }
            return many;
        }

        int toldOf(int work) {
            return at(toldCounts, work);
        }

        int toldAt(int work, int i) {
            return at(told, work * MOST_TOLD + i);
        }

        int addTold(int work, int mark) {
            int many = toldOf(work);
            put(told, work * MOST_TOLD + many, mark);
            put(toldCounts, work, many + 1);
            return many + 1;
        }

        int peopleOf(int work) {
            return at(peopleCounts, work);
        }

        int givesAt(int work, int i) {
            return at(people, work * MOST_PEOPLE + i);
        }

        int addPerson(int work, int gives) {
            int many = peopleOf(work);
            put(people, work * MOST_PEOPLE + many, gives);
            put(peopleCounts, work, many + 1);
            return many + 1;
        }

        int weightOf(int year) {
            return at(weights, year);
        }

        void setWeight(int year, int weight) {
            put(weights, year, weight);
        }
    }

    /** The ways by which a work is done year after year, each the cheapest one left then. */
    private static final class Succession {
        private final boolean[] gone = new boolean[MOST_WAYS];
        private final int[] costs = new int[MOST_YEARS];
        private final long[] shares = new long[MOST_YEARS + 1];
        private int many;
        private int last;
        private int total;

        /** Follows it through so many years at most. */
        void follow(Work work, int most) {
            many = 0;
            last = NONE;
            total = 0;
            for (int way = 0; way < work.count && way < gone.length; way++) {
                gone[way] = work.isSpent(way);
            }
            for (int way = 0; way < work.count && way < gone.length && many < most; way++) {
                if (!gone[way]) {
                    take(work, way);
                }
            }
        }

        private void take(Work work, int way) {
            put(costs, many, work.costOf(way));
            many++;
            last = way;
            total += work.costOf(way);
            work.setSame(gone, work.plan.law, work.plan.otherBy, way, way + 1);
        }

        /** The cost that is expected, in thousandths, of what was followed. */
        int expected(int chance, int years) {
            Arrays.fill(shares, 0);
            shares[0] = 1000000000;
            long all = 0;
            for (int year = 0; year < years; year++) {
                all += passYear(chance);
            }
            return (int) (all / 1000000);
        }

        /** From the greatest number down: what goes over in a year must not go on in it. */
        private long passYear(int chance) {
            long costsOfAll = 0;
            for (int wanted = Math.min(many, MOST_YEARS) - 1; wanted >= 0; wanted--) {
                long over = shares[wanted] * chance / THOUSAND;
                shares[wanted] -= over;
                shares[wanted + 1] += over;
                costsOfAll += over * at(costs, wanted);
            }
            return costsOfAll;
        }
    }

    /** As many as can be of the cheapest ways left, each two of which are other enough. */
    private static final class Spread {
        private final int[] marks = new int[MOST_APART];
        private final int[] costs = new int[MOST_APART];
        private final int[] clashes = new int[MOST_APART];
        private int many;
        private int bestMany;
        private int bestCost;
        private int bestBits;

        void seek(Work work, int number) {
            many = 0;
            for (int way = work.nextUnspent(0); way != NONE && many < MOST_APART; way = work.nextUnspent(way + 1)) {
                put(marks, many, work.markOf(way));
                put(costs, many, work.costOf(way));
                many++;
            }
            for (int i = 0; i < many; i++) {
                put(clashes, i, clashesOf(i, number));
            }
            bestMany = 0;
            bestCost = 0;
            bestBits = 0;
            choose(0, 0, 0, 0);
        }

        private int clashesOf(int one, int number) {
            int bits = 0;
            for (int i = 0; i < many; i++) {
                if (i != one && Integer.bitCount(at(marks, i) ^ at(marks, one)) < number) {
                    bits |= 1 << i;
                }
            }
            return bits;
        }

        /** Takes or leaves those from next on; next is the depth too. */
        private void choose(int next, int bits, int taken, int cost) {
            if (taken + many - next < bestMany) {
                return;
            }
            if (next >= many || next >= MOST_APART) {
                keepIfBetter(bits, taken, cost);
                return;
            }
            if ((at(clashes, next) & bits) == 0) {
                choose(next + 1, bits | 1 << next, taken + 1, cost + at(costs, next));
            }
            choose(next + 1, bits, taken, cost);
        }

        private void keepIfBetter(int bits, int taken, int cost) {
            boolean better = taken != bestMany ? taken > bestMany
                    : cost != bestCost ? cost < bestCost : bits < bestBits;
            if (better) {
                bestMany = taken;
                bestCost = cost;
                bestBits = bits;
            }
        }
    }

    /** Years and their weights: the cheapest way belongs to the greatest weight. */
    private static final class Calendar {
        private final int[] yearsOfWeight = new int[MOST_WEIGHT + 1];

        void countWeights(Ledger ledger, int years) {
            Arrays.fill(yearsOfWeight, 0);
            for (int year = 0; year < years; year++) {
                int weight = ledger.weightOf(year);
                put(yearsOfWeight, weight, at(yearsOfWeight, weight) + 1);
            }
        }

        /** The least costs by weights together, without so many of the cheapest ways. */
        int leastCost(Work work, int without) {
            int cost = 0;
            int way = work.unspentAt(without);
            for (int weight = MOST_WEIGHT; weight >= 0; weight--) {
                for (int year = at(yearsOfWeight, weight); year > 0 && way != NONE; year--) {
                    cost += weight * work.costOf(way);
                    way = work.nextUnspent(way + 1);
                }
            }
            return cost;
        }
    }

    /** Who of the people gets one of the ways left, and the price at rest. */
    private static final class Market {
        private final int[] gives = new int[MOST_PEOPLE];
        private int many;
        private int gain;
        private int served;
        private int leastPrice;
        private int greatestPrice;

        /** Lines the people up, those who would give most first. */
        void line(Ledger ledger, int work) {
            many = Math.min(ledger.peopleOf(work), MOST_PEOPLE);
            for (int i = 0; i < many; i++) {
                int mine = ledger.givesAt(work, i);
                int place = i;
                while (place > 0 && at(gives, place - 1) < mine) {
                    put(gives, place, at(gives, place - 1));
                    place--;
                }
                put(gives, place, mine);
            }
        }

        /** One more gets one only for a gain, so that the people are the fewest. */
        void settle(Work work) {
            gain = 0;
            served = 0;
            int dearest = 0;
            int way = work.nextUnspent(0);
            while (served < many && way != NONE && at(gives, served) > work.costOf(way)) {
                dearest = work.costOf(way);
                gain += at(gives, served) - dearest;
                served++;
                way = work.nextUnspent(way + 1);
            }
            leastPrice = served < many ? Math.max(dearest, at(gives, served)) : dearest;
            greatestPrice = served > 0 ? at(gives, served - 1) : MOST_GIVES;
            if (way != NONE) {
                int cost = work.costOf(way);
                greatestPrice = served > 0 ? Math.min(greatestPrice, cost) : cost;
            }
        }
    }

    /** The step more of a net by which there are most ways. */
    private static final class Roads {
        private final int[] into = new int[MOST_PLACES];
        private final int[] onward = new int[MOST_PLACES];
        private int bestFrom;
        private int bestTo;
        private int bestNew;

        void seek(Plan plan) {
            countInto(plan);
            countOnward(plan);
            bestNew = NONE;
            for (int from = 0; from < plan.number; from++) {
                for (int to = from + 1; to < plan.number; to++) {
                    int ways = at(into, from) * at(onward, to);
                    if (ways > bestNew) {
                        bestFrom = from;
                        bestTo = to;
                        bestNew = ways;
                    }
                }
            }
        }

        private void countInto(Plan plan) {
            Arrays.fill(into, 0);
            into[0] = 1;
            for (int place = 0; place < plan.number; place++) {
                for (int step = 0; step < plan.items; step++) {
                    if (plan.startAt(step) == place) {
                        put(into, plan.endAt(step), at(into, plan.endAt(step)) + at(into, place));
                    }
                }
            }
        }

        private void countOnward(Plan plan) {
            Arrays.fill(onward, 0);
            put(onward, plan.number - 1, 1);
            for (int place = plan.number - 1; place >= 0; place--) {
                for (int step = 0; step < plan.items; step++) {
                    if (plan.endAt(step) == place) {
                        put(onward, plan.startAt(step), at(onward, plan.startAt(step)) + at(onward, place));
                    }
                }
            }
        }
    }
}
