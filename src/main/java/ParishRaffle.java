import java.util.Arrays;

/**
 * A parish whose things are drawn by tickets from a hat. Every call answers a number of 0 or more,
 * or one of the four constants; a worth, which may be below 0, is answered with 1000 added.
 */
public final class ParishRaffle {
    public static final int BAD = -1, NO = -2, FULL = -3, NONE = -4;

    private static final int MAX_PERSONS = 5;
    private static final int MAX_THINGS = 6;
    private static final int MAX_TICKETS = 9;
    private static final int MAX_WORTH = 30;
    private static final int MAX_LETTERS = 200;
    private static final int MAX_UNDONE = 8;
    private static final int MAX_KEPT = 2;
    private static final int MAX_NOTED = 8;
    private static final int MAX_ROW = 8;
    private static final int MAX_YEAR = 9999;
    private static final int MAX_TURNS = 60;

    private static final int KIND_GOOD = 0, KIND_BAD = 1, KIND_FROST = 2, KIND_PAIR = 3;

    /** Added to a worth so that none of them looks like one of the constants. */
    private static final int LIFT = 1000;

    private static final String FIRST_TEXT =
            "p3;p1;p5;p0;p2;t0,12;t1,8;t3,10;t2,6;t3,7;t0,3;l0,0,4;l1,2,6;l2,1,5;l2,4,9;l4,5,12;l3,0,20;";

    private final Text text;
    private final Stand now;
    private final Stand trial;
    private final Stands past;
    private final Stands kept;
    private final Notes notes;
    private final Barter barter;
    private Parish parish;
    private Parish spare;

    public ParishRaffle() {
        text = new Text();
        now = new Stand();
        trial = new Stand();
        past = new Stands(MAX_UNDONE);
        kept = new Stands(MAX_KEPT);
        notes = new Notes();
        barter = new Barter();
        parish = new Parish();
        spare = new Parish();
        for (int i = 0; i < FIRST_TEXT.length(); i++) {
            text.append(FIRST_TEXT.charAt(i));
        }
        text.tell(parish);
        text.clear();
        now.start(parish);
    }

    // ---- parishes

    public int write(int letter) {
        if (letter < 32 || letter > 126) {
            return BAD;
        }
        if (!text.append((char) letter)) {
            return FULL;
        }
        return text.length;
    }

    public int wipe() {
        int length = text.length;
        text.clear();
        return length;
    }

    public int fault() {
        return text.tell(spare);
    }

    public int lay() {
        if (text.tell(spare) != NONE || spare.persons == 0) {
            return NO;
        }
        Parish told = spare;
        spare = parish;
        parish = told;
        now.start(parish);
        past.clear();
        kept.clear();
        notes.clear();
        return parish.persons;
    }

    public int person(int p, int what) {
        if (!parish.isPerson(p)) {
            return BAD;
        }
        switch (what) {
            case 0:
                return now.ticketsOf(p);
            case 1:
                return parish.tickets[p];
            case 2:
                return now.setOf(p);
            case 3:
                return LIFT + parish.worthTo(p, now.setOf(p));
            default:
                return BAD;
        }
    }

    public int thing(int t, int what) {
        if (!parish.isThing(t)) {
            return BAD;
        }
        switch (what) {
            case 0:
                return parish.kinds[t];
            case 1:
                return parish.worths[t];
            case 2:
                return now.ownerOf(t);
            case 3:
                return t < now.next() ? 1 : 0;
            case 4:
                return t == now.refusable() ? 1 : 0;
            default:
                return BAD;
        }
    }

    public int likes(int p, int t) {
        if (!parish.isPerson(p) || !parish.isThing(t)) {
            return BAD;
        }
        return parish.likingOf(p, t);
    }

    // ---- acts

    public int draw(int k) {
        int owner = now.ticketHolder(k);
        if (owner == NONE) {
            return BAD;
        }
        if (now.next() >= parish.things) {
            return NO;
        }
        past.push(now);
        now.takeNext(owner);
        return owner;
    }

    public int refuse() {
        int t = now.refusable();
        if (t == NONE) {
            return NO;
        }
        past.push(now);
        now.putBack(t);
        return t;
    }

    public int buy(int p, int n) {
        if (!parish.isPerson(p) || n < 1 || n > MAX_TICKETS) {
            return BAD;
        }
        if (now.ticketsOf(p) + n > MAX_TICKETS) {
            return FULL;
        }
        past.push(now);
        now.addTickets(p, n);
        return now.ticketsOf(p);
    }

    public int hand(int p, int q) {
        if (!parish.isPerson(p) || !parish.isPerson(q) || p == q) {
            return BAD;
        }
        if (now.ticketsOf(p) == 0) {
            return NO;
        }
        if (now.ticketsOf(q) >= MAX_TICKETS) {
            return FULL;
        }
        past.push(now);
        now.addTickets(p, -1);
        now.addTickets(q, 1);
        return now.ticketsOf(q);
    }

    public int swap(int t, int u) {
        if (!parish.isThing(t) || !parish.isThing(u) || t == u) {
            return BAD;
        }
        int p = now.ownerOf(t);
        int q = now.ownerOf(u);
        if (p == NONE || q == NONE || p == q) {
            return NO;
        }
        past.push(now);
        now.pass(t, q);
        now.pass(u, p);
        return q;
    }

    public int give(int t, int p) {
        if (!parish.isThing(t) || !parish.isPerson(p)) {
            return BAD;
        }
        int had = now.ownerOf(t);
        if (had == NONE || had == p) {
            return NO;
        }
        past.push(now);
        now.pass(t, p);
        return had;
    }

    public int undo() {
        if (!past.pop(now)) {
            return NO;
        }
        return past.size;
    }

    // ---- what can be

    public int wins(int p, int n, int part) {
        if (!parish.isPerson(p) || n < 1 || n > MAX_THINGS || !isPart(part)) {
            return BAD;
        }
        int all = now.tickets();
        int draws = drawsAhead(n, all);
        long ways = falling(all, draws);
        long lost = falling(all - now.ticketsOf(p), draws);
        return (int) lowest(ways - lost, ways, part);
    }

    public long mean(int p, int part) {
        if (!parish.isPerson(p) || !isPart(part)) {
            return BAD;
        }
        int all = now.tickets();
        int draws = drawsAhead(MAX_THINGS, all);
        long ways = falling(all, draws);
        return lowest(LIFT * ways + worthOverWays(p, all, draws), ways, part);
    }

    public int needs(int p, int n, int x) {
        if (!parish.isPerson(p) || n < 1 || n > MAX_THINGS || x < 1 || x > 10) {
            return BAD;
        }
        int others = now.tickets() - now.ticketsOf(p);
        for (int own = 0; own <= MAX_TICKETS; own++) {
            int draws = drawsAhead(n, others + own);
            long ways = falling(others + own, draws);
            long won = ways - falling(others, draws);
            if (10 * won >= x * ways) {
                return own;
            }
        }
        return NONE;
    }

    public int swaps() {
        return barter.firstSwap(parish, now);
    }

    public int gives() {
        return barter.firstGift(parish, now);
    }

    public int share(int t) {
        if (t != -1 && !parish.isThing(t)) {
            return BAD;
        }
        if (t == -1) {
            return LIFT + barter.bestSum(parish, now);
        }
        return barter.bestOwner(parish, now, t);
    }

    public int envy() {
        return barter.firstEnvy(parish, now);
    }

    public int ring() {
        return barter.shortestRing(parish, now);
    }

    // ---- what was noted

    public int note(int p) {
        if (!parish.isPerson(p)) {
            return BAD;
        }
        if (notes.size >= MAX_NOTED) {
            return FULL;
        }
        notes.add(p);
        return notes.size;
    }

    public int forget() {
        int size = notes.size;
        notes.clear();
        return size;
    }

    public long fair(int p, int s, int part) {
        if (!parish.isPerson(p) || s < 1 || s > 9 || !isPart(part)) {
            return BAD;
        }
        if (!notes.canBe(parish)) {
            return NONE;
        }
        long loaded = s * notes.loadedWeight(parish, p);
        long even = (10 - s) * notes.evenWeight(parish, p);
        return lowest(loaded, loaded + even, part);
    }

    public long seats(int m) {
        if (m < 0 || m > MAX_ROW) {
            return BAD;
        }
        return parish.rowsOf(m);
    }

    // ---- years

    public int year(int z, int n, int what) {
        if (z < 0 || z > MAX_YEAR || n < 1 || n > MAX_TURNS || what < 0 || what > 1) {
            return BAD;
        }
        trial.copy(now);
        for (int k = 0; k < n; k++) {
            long x = 7919L * z + 6151L * k + 1;
            takeTurn((int) (x * x % 65521));
        }
        return what == 0 ? trial.ownedThings() : LIFT + worthOfAll(trial);
    }

    public int keep() {
        if (kept.isFull()) {
            return FULL;
        }
        kept.push(now);
        return kept.size;
    }

    public int back() {
        if (!kept.pop(now)) {
            return NO;
        }
        past.clear();
        return kept.size;
    }

    public int count(int what) {
        switch (what) {
            case 0:
                return parish.persons;
            case 1:
                return parish.things;
            case 2:
                return now.tickets();
            case 3:
                return now.next() < parish.things ? now.next() : NONE;
            case 4:
                return now.ownedThings();
            case 5:
                return LIFT + worthOfAll(now);
            case 6:
                return notes.size;
            case 7:
                return past.size;
            case 8:
                return kept.size;
            case 9:
                return text.length;
            default:
                return BAD;
        }
    }

    // ---- helpers of the calls

    private static boolean isPart(int part) {
        return part == 0 || part == 1;
    }

    /** How many of the next n things will be drawn from a hat of so many tickets. */
    private int drawsAhead(int n, int tickets) {
        return Math.min(n, Math.min(parish.things - now.next(), tickets));
    }

    /** What p has in the end, summed over all the ways in which the draws ahead can go. */
    private long worthOverWays(int p, int all, int draws) {
        int own = now.ticketsOf(p);
        int has = now.setOf(p);
        long sum = 0;
        for (int won = 0; won < 1 << draws; won++) {
            int times = Integer.bitCount(won);
            long ways = falling(own, times) * falling(all - own, draws - times);
            sum += ways * parish.worthTo(p, has | (won << now.next()));
        }
        return sum;
    }

    private int worthOfAll(Stand stand) {
        int sum = 0;
        for (int p = 0; p < parish.persons; p++) {
            sum += parish.worthTo(p, stand.setOf(p));
        }
        return sum;
    }

    /** One turn of a year, on the trial alone; what cannot be is passed over. */
    private void takeTurn(int turn) {
        int fourth = turn / 4;
        int later = turn / 64;
        switch (turn % 4) {
            case 0:
                tryDraw(fourth);
                break;
            case 1:
                tryBuy(fourth, later % 3 + 1);
                break;
            case 2:
                tryGive(fourth, later);
                break;
            default:
                break;
        }
    }

    private void tryDraw(int number) {
        int tickets = trial.tickets();
        if (tickets > 0 && trial.next() < parish.things) {
            trial.takeNext(trial.ticketHolder(number % tickets));
        }
    }

    private void tryBuy(int number, int n) {
        if (parish.persons > 0) {
            int p = number % parish.persons;
            if (trial.ticketsOf(p) + n <= MAX_TICKETS) {
                trial.addTickets(p, n);
            }
        }
    }

    private void tryGive(int number, int whom) {
        if (parish.things > 0 && parish.persons > 0) {
            int t = number % parish.things;
            if (trial.ownerOf(t) != NONE) {
                trial.pass(t, whom % parish.persons);
            }
        }
    }

    /** n (n - 1) (n - 2) .., so many factors: the ways to draw so many of n tickets in a row. */
    private static long falling(int n, int factors) {
        long product = 1;
        for (int i = 0; i < factors; i++) {
            product *= n - i;
        }
        return product;
    }

    /** One part of a fraction in lowest terms: 0 what is above, 1 what is below (which is not 0). */
    private static long lowest(long above, long below, int part) {
        long divisor = commonDivisor(above, below);
        if (divisor == 0) {
            return 0;
        }
        return (part == 0 ? above : below) / divisor;
    }

    /** Euclid's way; two longs need fewer than a hundred steps. */
    private static long commonDivisor(long a, long b) {
        long greater = a;
        long less = b;
        for (int step = 0; step < 100 && less != 0; step++) {
            long rest = greater % less;
            greater = less;
            less = rest;
        }
        return greater;
    }

    /** The letters that were written, and how they are read. */
    private static final class Text {
        private final char[] letters = new char[MAX_LETTERS];
        private final int[] numbers = new int[3];
        private int length;
        private int at;

        boolean append(char letter) {
            if (length >= MAX_LETTERS) {
                return false;
            }
            letters[length] = letter;
            length++;
            return true;
        }

        void clear() {
            length = 0;
        }

        /** Tells a parish by the text, up to its first fault: the place of that, or NONE. */
        int tell(Parish parish) {
            parish.clear();
            at = 0;
            for (int items = 0; items < MAX_LETTERS && at < length; items++) {
                int place = at;
                if (!tellItem(parish)) {
                    return place;
                }
            }
            return NONE;
        }

        private boolean tellItem(Parish parish) {
            switch (nextLetter()) {
                case 'p':
                    return readNumbers(1) && parish.addPerson(numbers[0]);
                case 't':
                    return readNumbers(2) && parish.addThing(numbers[0], numbers[1]);
                case 'l':
                    return readNumbers(3) && parish.addLiking(numbers[0], numbers[1], numbers[2]);
                default:
                    return false;
            }
        }

        /** Reads so many numbers (3 at most), each with the sign that must stand behind it. */
        private boolean readNumbers(int many) {
            for (int i = 0; i < many && i < numbers.length; i++) {
                if (!isFigure()) {
                    return false;
                }
                int number = nextLetter() - '0';
                if (isFigure()) {
                    number = 10 * number + nextLetter() - '0';
                }
                numbers[i] = number;
                if (nextLetter() != (i < many - 1 ? ',' : ';')) {
                    return false;
                }
            }
            return true;
        }

        private boolean isFigure() {
            return at < length && letters[at] >= '0' && letters[at] <= '9';
        }

        /** The letter at hand, which is read then; 0, which no text holds, behind the last one. */
        private int nextLetter() {
            if (at >= length) {
                return 0;
            }
            int letter = letters[at];
            at++;
            return letter;
        }
    }

    /** What a text tells. No act changes it. */
    private static final class Parish {
        private final int[] tickets = new int[MAX_PERSONS];
        private final int[] kinds = new int[MAX_THINGS];
        private final int[] worths = new int[MAX_THINGS];
        private final int[] likings = new int[MAX_PERSONS * MAX_THINGS];
        private final long[] rows = new long[MAX_PERSONS];
        private int persons;
        private int things;

        void clear() {
            persons = 0;
            things = 0;
            Arrays.fill(tickets, 0);
            Arrays.fill(likings, 0);
        }

        boolean isPerson(int p) {
            return p >= 0 && p < persons;
        }

        boolean isThing(int t) {
            return t >= 0 && t < things;
        }

        boolean addPerson(int holds) {
            if (persons >= MAX_PERSONS || holds > MAX_TICKETS) {
                return false;
            }
            tickets[persons] = holds;
            persons++;
            return true;
        }

        boolean addThing(int kind, int worth) {
            if (things >= MAX_THINGS || kind > KIND_PAIR || worth > MAX_WORTH) {
                return false;
            }
            kinds[things] = kind;
            worths[things] = worth;
            things++;
            return true;
        }

        boolean addLiking(int p, int t, int more) {
            if (!isPerson(p) || !isThing(t) || more > MAX_WORTH) {
                return false;
            }
            likings[p * MAX_THINGS + t] = more;
            return true;
        }

        int likingOf(int p, int t) {
            return likings[p * MAX_THINGS + t];
        }

        int allTickets() {
            int sum = 0;
            for (int p = 0; p < persons; p++) {
                sum += tickets[p];
            }
            return sum;
        }

        /** What a set of things (bits) is worth to a person who has just these. */
        int worthTo(int p, int set) {
            int goods = countOf(KIND_GOOD, set);
            int pairs = countOf(KIND_PAIR, set);
            int sum = 0;
            for (int t = 0; t < things; t++) {
                if ((set >> t & 1) != 0) {
                    sum += likingOf(p, t) + ownWorth(t, goods, pairs);
                }
            }
            return sum;
        }

        private int countOf(int kind, int set) {
            int many = 0;
            for (int t = 0; t < things; t++) {
                if ((set >> t & 1) != 0 && kinds[t] == kind) {
                    many++;
                }
            }
            return many;
        }

        /** What a thing is worth to anyone, beside so many goods and pairs (itself among them). */
        private int ownWorth(int t, int goods, int pairs) {
            switch (kinds[t]) {
                case KIND_GOOD:
                    return worths[t];
                case KIND_BAD:
                    return -worths[t];
                case KIND_FROST:
                    return goods > 0 ? 0 : -worths[t];
                default:
                    return pairs > 1 ? worths[t] : 0;
            }
        }

        /** How many rows of m tickets there are in which no two neighbours are of one person. */
        long rowsOf(int m) {
            if (m == 0) {
                return 1;
            }
            long sum = 0;
            for (int p = 0; p < persons; p++) {
                rows[p] = tickets[p];
                sum += rows[p];
            }
            for (int longer = 1; longer < m; longer++) {
                long before = sum;
                sum = 0;
                for (int p = 0; p < persons; p++) {
                    rows[p] = tickets[p] * (before - rows[p]);
                    sum += rows[p];
                }
            }
            return sum;
        }
    }

    /** All that acts change, in one row of numbers, so that it is copied at one stroke. */
    private static final class Stand {
        private static final int OWNERS = MAX_PERSONS;
        private static final int NEXT = OWNERS + MAX_THINGS;
        private static final int REFUSED = NEXT + 1;
        private static final int REFUSABLE = NEXT + 2;
        private static final int CELLS = NEXT + 3;

        private final int[] cells = new int[CELLS];

        void start(Parish parish) {
            for (int p = 0; p < MAX_PERSONS; p++) {
                cells[p] = parish.tickets[p];
            }
            for (int t = 0; t < MAX_THINGS; t++) {
                cells[OWNERS + t] = NONE;
            }
            cells[NEXT] = 0;
            cells[REFUSED] = 0;
            cells[REFUSABLE] = NONE;
        }

        void copy(Stand other) {
            System.arraycopy(other.cells, 0, cells, 0, CELLS);
        }

        int ticketsOf(int p) {
            return cells[p];
        }

        int ownerOf(int t) {
            return cells[OWNERS + t];
        }

        /** Which thing is next; as many as there are things, if none is. */
        int next() {
            return cells[NEXT];
        }

        /** Which thing can be refused, or NONE. */
        int refusable() {
            return cells[REFUSABLE];
        }

        int tickets() {
            int sum = 0;
            for (int p = 0; p < MAX_PERSONS; p++) {
                sum += cells[p];
            }
            return sum;
        }

        /** Who holds the k-th ticket of the hat; NONE, if there is no such ticket. */
        int ticketHolder(int k) {
            int left = k;
            for (int p = 0; p < MAX_PERSONS && left >= 0; p++) {
                if (left < cells[p]) {
                    return p;
                }
                left -= cells[p];
            }
            return NONE;
        }

        int setOf(int p) {
            int set = 0;
            for (int t = 0; t < MAX_THINGS; t++) {
                if (ownerOf(t) == p) {
                    set |= 1 << t;
                }
            }
            return set;
        }

        int ownedSet() {
            int set = 0;
            for (int t = 0; t < MAX_THINGS; t++) {
                if (ownerOf(t) != NONE) {
                    set |= 1 << t;
                }
            }
            return set;
        }

        int ownedThings() {
            return Integer.bitCount(ownedSet());
        }

        /** The next thing is drawn by a ticket of p's; without either of them nothing happens. */
        void takeNext(int p) {
            int t = cells[NEXT];
            if (t < 0 || t >= MAX_THINGS || p < 0 || p >= MAX_PERSONS) {
                return;
            }
            cells[p]--;
            cells[OWNERS + t] = p;
            cells[NEXT] = t + 1;
            cells[REFUSABLE] = (cells[REFUSED] >> t & 1) != 0 ? NONE : t;
        }

        void putBack(int t) {
            cells[OWNERS + t] = NONE;
            cells[NEXT] = t;
            cells[REFUSED] |= 1 << t;
            cells[REFUSABLE] = NONE;
        }

        void addTickets(int p, int n) {
            cells[p] += n;
        }

        /** A thing goes from who has it to p; no change, if p has it. */
        void pass(int t, int p) {
            if (ownerOf(t) == p) {
                return;
            }
            cells[OWNERS + t] = p;
            if (cells[REFUSABLE] == t) {
                cells[REFUSABLE] = NONE;
            }
        }
    }

    /** Stands laid by, the last one on top. */
    private static final class Stands {
        private final int[] rows;
        private final int room;
        private int size;

        Stands(int most) {
            room = Math.max(most, 1);
            rows = new int[room * Stand.CELLS];
        }

        boolean isFull() {
            return size >= room;
        }

        void clear() {
            size = 0;
        }

        /** Lays a stand on top; if there is no room, the one at the bottom is dropped. */
        void push(Stand stand) {
            if (isFull()) {
                size = room - 1;
                System.arraycopy(rows, Stand.CELLS, rows, 0, size * Stand.CELLS);
            }
            System.arraycopy(stand.cells, 0, rows, size * Stand.CELLS, Stand.CELLS);
            size++;
        }

        /** Takes the one on top off, into a stand; false, if there is none. */
        boolean pop(Stand into) {
            if (size == 0) {
                return false;
            }
            size--;
            System.arraycopy(rows, size * Stand.CELLS, into.cells, 0, Stand.CELLS);
            return true;
        }
    }

    /** Whose tickets were drawn from the hat as laid; their order tells nothing. */
    private static final class Notes {
        private final int[] drawn = new int[MAX_PERSONS];
        private int size;

        void add(int p) {
            drawn[p]++;
            size++;
        }

        void clear() {
            Arrays.fill(drawn, 0);
            size = 0;
        }

        /** Whether nobody without a ticket was noted. */
        boolean canBe(Parish parish) {
            for (int p = 0; p < MAX_PERSONS; p++) {
                if (drawn[p] > 0 && parish.tickets[p] == 0) {
                    return false;
                }
            }
            return true;
        }

        /**
         * How likely the notes are by a hat that is loaded for p, times what it shares with
         * evenWeight: for each note 2 of p's, 1 of another's, over all tickets and p's again.
         */
        long loadedWeight(Parish parish, int p) {
            return power(2, drawn[p]) * power(parish.allTickets(), size);
        }

        long evenWeight(Parish parish, int p) {
            return power(parish.allTickets() + parish.tickets[p], size);
        }

        private static long power(long base, int times) {
            long product = 1;
            for (int i = 0; i < times; i++) {
                product *= base;
            }
            return product;
        }
    }

    /** What people could do with the things that they have. */
    private static final class Barter {
        private static final int SETS = 1 << MAX_THINGS;
        /** Bits of one person's number in a sharing out that is told as one number. */
        private static final int WHO_BITS = 3;
        private static final int CODE_BITS = WHO_BITS * MAX_THINGS;

        private final int[] gains = new int[SETS];
        private final int[] best = new int[SETS];
        private final int[] envied = new int[MAX_PERSONS];

        int firstSwap(Parish parish, Stand stand) {
            for (int t = 0; t < parish.things; t++) {
                for (int u = t + 1; u < parish.things; u++) {
                    if (bothGain(parish, stand, t, u)) {
                        return 10 * t + u;
                    }
                }
            }
            return NONE;
        }

        private static boolean bothGain(Parish parish, Stand stand, int t, int u) {
            int p = stand.ownerOf(t);
            int q = stand.ownerOf(u);
            if (p == NONE || q == NONE || p == q) {
                return false;
            }
            int both = 1 << t | 1 << u;
            return change(parish, stand, p, both) > 0 && change(parish, stand, q, both) > 0;
        }

        /** By how much p has more worth, if of the things in flips it has those that it has not. */
        private static int change(Parish parish, Stand stand, int p, int flips) {
            int has = stand.setOf(p);
            return parish.worthTo(p, has ^ flips) - parish.worthTo(p, has);
        }

        int firstGift(Parish parish, Stand stand) {
            for (int t = 0; t < parish.things; t++) {
                for (int q = 0; q < parish.persons; q++) {
                    if (isGoodGift(parish, stand, t, q)) {
                        return 10 * t + q;
                    }
                }
            }
            return NONE;
        }

        private static boolean isGoodGift(Parish parish, Stand stand, int t, int q) {
            int p = stand.ownerOf(t);
            if (p == NONE || p == q) {
                return false;
            }
            int forGiver = change(parish, stand, p, 1 << t);
            int forTaker = change(parish, stand, q, 1 << t);
            return forGiver >= 0 && forTaker >= 0 && forGiver + forTaker > 0;
        }

        int bestSum(Parish parish, Stand stand) {
            return sumIn(bestSharing(parish, stand.ownedSet()));
        }

        int bestOwner(Parish parish, Stand stand, int t) {
            if (stand.ownerOf(t) == NONE) {
                return NONE;
            }
            int value = bestSharing(parish, stand.ownedSet());
            int code = (sumIn(value) << CODE_BITS) - value;
            return (code >> placeOf(t)) & ((1 << WHO_BITS) - 1);
        }

        /**
         * A sharing out is told as (sum of worths << CODE_BITS) - code, the code being the persons'
         * numbers, that of the lowest thing foremost: so the greatest one has the most worth, and is
         * the first of those. It is the sum of what each person adds to it by its own things, and
         * so it can be found person by person.
         */
        private int bestSharing(Parish parish, int all) {
            for (int p = 0; p < parish.persons; p++) {
                tellGains(parish, p, all);
                for (int set = all; set >= 0; set--) {
                    if ((set & ~all) == 0) {
                        best[set] = p == 0 ? gains[set] : bestWith(set);
                    }
                }
            }
            return best[all];
        }

        private void tellGains(Parish parish, int p, int all) {
            for (int set = 0; set <= all; set++) {
                int code = 0;
                for (int t = 0; t < parish.things; t++) {
                    code += ((set >> t & 1) * p) << placeOf(t);
                }
                gains[set] = (parish.worthTo(p, set) << CODE_BITS) - code;
            }
        }

        /** The best for a set, one person having some of it, those ahead of it the others. */
        private int bestWith(int set) {
            int most = best[set];
            for (int part = set; part > 0; part = (part - 1) & set) {
                most = Math.max(most, gains[part] + best[set ^ part]);
            }
            return most;
        }

        private static int placeOf(int t) {
            return WHO_BITS * (MAX_THINGS - 1 - t);
        }

        /** Rounds up, since the code was taken away. */
        private static int sumIn(int value) {
            return (value + (1 << CODE_BITS) - 1) >> CODE_BITS;
        }

        int firstEnvy(Parish parish, Stand stand) {
            for (int p = 0; p < parish.persons; p++) {
                for (int q = 0; q < parish.persons; q++) {
                    if (envies(parish, stand, p, q)) {
                        return 10 * p + q;
                    }
                }
            }
            return NONE;
        }

        private static boolean envies(Parish parish, Stand stand, int p, int q) {
            return parish.worthTo(p, stand.setOf(q)) > parish.worthTo(p, stand.setOf(p));
        }

        /** The shortest way back to where it began passes nobody twice: so it is a ring. */
        int shortestRing(Parish parish, Stand stand) {
            tellEnvied(parish, stand);
            for (int steps = 2; steps <= parish.persons; steps++) {
                for (int p = 0; p < parish.persons; p++) {
                    if (comesBack(parish, p, steps)) {
                        return steps;
                    }
                }
            }
            return NONE;
        }

        private void tellEnvied(Parish parish, Stand stand) {
            for (int p = 0; p < parish.persons; p++) {
                envied[p] = 0;
                for (int q = 0; q < parish.persons; q++) {
                    if (envies(parish, stand, p, q)) {
                        envied[p] |= 1 << q;
                    }
                }
            }
        }

        private boolean comesBack(Parish parish, int start, int steps) {
            int reached = 1 << start;
            for (int step = 0; step < steps; step++) {
                int further = 0;
                for (int p = 0; p < parish.persons; p++) {
                    if ((reached >> p & 1) != 0) {
                        further |= envied[p];
                    }
                }
                reached = further;
            }
            return (reached >> start & 1) != 0;
        }
    }
}
