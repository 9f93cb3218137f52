import java.util.Arrays;

/**
 * Words of squares in two bases, the spaces that squares act on, the least towers of free spaces over these, and
 * differences told on the chart of what lives in a tower.
 */
public final class SquareTower {
    public static final int BAD = -1, STATE = -2, FULL = -3, NONE = -9;

    private static final int BAD_BALANCE = -1000000;
    private static final int STATE_BALANCE = -2000000;

    private static final int TOP = 14;
    /** How many ALLOWED CHAINS, and how many ROWS, there are of the degrees 0 .. 14 in all. */
    private static final int ALL_TERMS = 61;
    /** The fourth number of a ROW is 0 and an ALLOWED CHAIN has no fourth one: either needs a degree of 15. */
    private static final int NUMBERS = 3;
    private static final int ROW_NUMBERS = 4;
    private static final int LONGEST_CHAIN = 6;

    private static final int ELEMENTS = 12;
    private static final int TOP_ELEMENT = 12;
    private static final int TOP_ACT = 12;
    private static final int POINT = 0;
    private static final int LINES = 1;
    private static final int PAIRS = 2;
    private static final int TOP_PAIR = 6;

    private static final int TOP_FLOOR = 5;
    private static final int FLOORS = TOP_FLOOR + 1;
    private static final int TOP_JOIN = 3;
    /**
     * A TOWER is never larger than those over its ELEMENTS one by one, taken together. That over a POINT has 6
     * generators at most in F(s), and in one degree of it 25 places at most (both in F(2)), of which 15 at most are
     * independent where they go to, and 15 at most go to nothing.
     */
    private static final int GENERATORS = 6 * ELEMENTS;
    private static final int PLACES = 25 * ELEMENTS;
    private static final int RANKS = 15 * ELEMENTS;
    private static final int WORDS = (PLACES + 63) / 64;
    private static final int BITS_OF_INT = 32;

    private static final int SHORTEST = 2;
    private static final int LONGEST = 4;
    private static final int TOP_RANK = 99;

    private final Basis allowed;
    private final Squares squares;
    private final RowProduct rowProduct;
    private final Basis rows;
    private final Space space;
    private final Tower tower;
    private final Chart chart;
    private final int[] chain;
    private int length;
    private int degree;

    public SquareTower() {
        Basis chains = new Basis(1, 1, true);
        Basis milnor = new Basis(3, 7, false);
        Squares products = new Squares(chains);
        Space elements = new Space();
        allowed = chains;
        rows = milnor;
        squares = products;
        rowProduct = new RowProduct(milnor);
        space = elements;
        tower = new Tower(chains, products, elements);
        chart = new Chart();
        chain = new int[LONGEST_CHAIN];
        length = 0;
        degree = 0;
    }

    // ---- words

    public int square(int i) {
        if (i < 0 || i > TOP || degree + i > TOP) {
            return BAD;
        }
        if (length >= chain.length) {
            return FULL;
        }
        chain[length] = i;
        length++;
        degree += i;
        return length;
    }

    public int clear() {
        int had = length;
        length = 0;
        degree = 0;
        return had;
    }

    public int sum(int what) {
        if (what < 0 || what > 1) {
            return BAD;
        }
        return Integer.bitCount(what == 0 ? sumOfAllowed() : sumOfRows());
    }

    public int term(int what, int i, int j) {
        if (what < 0 || what > 1 || j < 0 || (what == 1 && j >= ROW_NUMBERS)) {
            return BAD;
        }
        int k = placeOfBit(what == 0 ? sumOfAllowed() : sumOfRows(), i);
        if (k < 0) {
            return BAD;
        }
        if (what == 1) {
            return rows.numberAt(rows.start(degree) + k, j);
        }
        int number = allowed.numberAt(allowed.start(degree) + k, j);
        return number == 0 ? NONE : number;
    }

    public int many(int degree) {
        if (degree < 0 || degree > TOP) {
            return BAD;
        }
        return allowed.size(degree);
    }

    /** The SUM that the CHAIN is, as bits of the ALLOWED CHAINS of its degree. */
    private int sumOfAllowed() {
        int sum = 1;
        int reached = 0;
        for (int k = Math.min(length, chain.length) - 1; k >= 0; k--) {
            sum = squares.timesSum(chain[k], sum, reached);
            reached += chain[k];
        }
        return sum;
    }

    /** The SUM that the CHAIN is, as bits of the ROWS of its degree. */
    private int sumOfRows() {
        int sum = 1;
        int reached = 0;
        for (int k = Math.min(length, chain.length) - 1; k >= 0; k--) {
            sum = rowProduct.timesSum(chain[k], sum, reached);
            reached += chain[k];
        }
        return sum;
    }

    /** The place of the i-th bit that is set, -1 if there is none. */
    private static int placeOfBit(int bits, int i) {
        int seen = 0;
        for (int k = 0; k < BITS_OF_INT; k++) {
            if ((bits >> k & 1) != 0) {
                if (seen == i) {
                    return k;
                }
                seen++;
            }
        }
        return -1;
    }

    // ---- spaces

    public int empty() {
        int had = space.size();
        space.restart();
        spaceHasChanged();
        return had;
    }

    public int element(int degree) {
        if (degree < 0 || degree > TOP_ELEMENT) {
            return BAD;
        }
        if (space.size() >= ELEMENTS) {
            return FULL;
        }
        spaceHasChanged();
        return space.add(degree);
    }

    public int act(int i, int element, int bits) {
        if (i < 1 || i > TOP_ACT || !space.has(element)) {
            return BAD;
        }
        int right = space.ofDegree(space.degreeOf(element) + i);
        if ((bits & ~right) != 0) {
            return BAD;
        }
        int was = space.acted(i, element);
        space.setAct(i, element, bits);
        spaceHasChanged();
        return was;
    }

    public int space(int name, int m, int n) {
        if (!isName(name, m, n)) {
            return BAD;
        }
        space.spread(name == POINT ? n : m, n, name == PAIRS ? 2 : 1);
        spaceHasChanged();
        return space.size();
    }

    public int does(int element) {
        if (!space.has(element)) {
            return BAD;
        }
        int bits = 1 << element;
        for (int k = Math.min(length, chain.length) - 1; k >= 0; k--) {
            bits = space.apply(chain[k], bits);
        }
        return bits;
    }

    public int about(int element, int what) {
        if (!space.has(element) || what < 0 || what > TOP_ACT) {
            return BAD;
        }
        return what == 0 ? space.degreeOf(element) : space.acted(what, element);
    }

    public int fault(int what) {
        if (what < 0 || what > 2) {
            return BAD;
        }
        return space.firstFault(what);
    }

    private static boolean isName(int name, int m, int n) {
        if (name == POINT) {
            return n >= 0 && n <= TOP_ELEMENT;
        }
        if (name == LINES) {
            return m >= 1 && m <= n && n <= TOP_ELEMENT;
        }
        return name == PAIRS && m >= 0 && m <= n && n <= TOP_PAIR;
    }

    private void spaceHasChanged() {
        tower.restart();
        chart.wipe();
    }

    // ---- towers

    public int live(int s, int t) {
        if (!isInChart(s, t)) {
            return BAD;
        }
        if (!space.isSound()) {
            return STATE;
        }
        tower.build(t);
        return tower.generatorsAt(s, t);
    }

    public int joins(int i, int s, int t) {
        if (i < 0 || i > TOP_JOIN || s < 0 || s >= TOP_FLOOR || t < 0 || t > TOP - (1 << i)) {
            return BAD;
        }
        if (!space.isSound()) {
            return STATE;
        }
        tower.build(t + (1 << i));
        return tower.rankOfJoins(i, s, t);
    }

    public int balance(int t) {
        if (t < 0 || t > TOP) {
            return BAD_BALANCE;
        }
        if (!space.isSound()) {
            return STATE_BALANCE;
        }
        tower.build(t);
        return tower.turnByTurn(t) - Integer.bitCount(space.ofDegree(t));
    }

    private static boolean isInChart(int s, int t) {
        return s >= 0 && s <= TOP_FLOOR && t >= 0 && t <= TOP;
    }

    // ---- differences

    public int differ(int r, int s, int t, int rank) {
        if (r < SHORTEST || r > LONGEST || rank < 1 || rank > TOP_RANK) {
            return BAD;
        }
        if (!isInChart(s, t) || !isInChart(s + r, t + r - 1)) {
            return BAD;
        }
        if (!space.isSound()) {
            return STATE;
        }
        tower.build(t + r - 1);
        if (!mayBeTold(r, s, t, rank)) {
            return STATE;
        }
        chart.tell(r, s, t, rank);
        return 1;
    }

    public int page(int r, int s, int t) {
        if (r < SHORTEST || r > LONGEST + 1 || !isInChart(s, t)) {
            return BAD;
        }
        if (!space.isSound()) {
            return STATE;
        }
        tower.build(t);
        return leftOnPage(r, s, t);
    }

    public int count(int what) {
        if (what == 0) {
            return length;
        }
        if (what == 1) {
            return degree;
        }
        if (what == 2) {
            return space.size();
        }
        return what == 3 ? chart.told() : BAD;
    }

    private boolean mayBeTold(int r, int s, int t, int rank) {
        return chart.rankOf(r, s, t) == 0 && !chart.isLongerTold(r)
                && chart.spent(r, s, t) + rank <= leftOnPage(r, s, t)
                && chart.spent(r, s + r, t + r - 1) + rank <= leftOnPage(r, s + r, t + r - 1);
    }

    private int leftOnPage(int r, int s, int t) {
        int left = tower.generatorsAt(s, t);
        for (int shorter = SHORTEST; shorter < r; shorter++) {
            left -= chart.spent(shorter, s, t);
        }
        return left;
    }

    /** C(n, k) by twos: k's bits are all among n's. */
    private static boolean isOdd(int n, int k) {
        return k >= 0 && n >= 0 && (n & k) == k;
    }

    /** One base of the squares up to the top degree: its terms, rows of three numbers, in order degree by degree. */
    private static final class Basis {
        private final int[] numbers = new int[ALL_TERMS * NUMBERS];
        private final int[] starts = new int[TOP + 2];

        /** The terms' numbers weigh 1, second and third; with doubling, each is at least twice the next. */
        Basis(int second, int third, boolean doubling) {
            int terms = 0;
            for (int n = 0; n <= TOP; n++) {
                starts[n] = terms;
                for (int a = 0; a <= n; a++) {
                    for (int b = 0; a + second * b <= n; b++) {
                        int c = share(n - a - second * b, third);
                        boolean fits = c >= 0 && (!doubling || (a >= 2 * b && b >= 2 * c));
                        if (fits && terms < ALL_TERMS) {
                            numbers[terms * NUMBERS] = a;
                            numbers[terms * NUMBERS + 1] = b;
                            numbers[terms * NUMBERS + 2] = c;
                            terms++;
                        }
                    }
                }
            }
            starts[TOP + 1] = terms;
        }

        private static int share(int rest, int weight) {
            return weight > 0 && rest % weight == 0 ? rest / weight : -1;
        }

        /** Where the terms of a degree begin among all; of degrees outside, where they would. */
        int start(int degree) {
            return starts[Math.max(0, Math.min(degree, TOP + 1))];
        }

        int size(int degree) {
            return degree < 0 || degree > TOP ? 0 : starts[degree + 1] - starts[degree];
        }

        /** Number j of a term, 0 where it has none. */
        int numberAt(int term, int j) {
            return term >= 0 && term < ALL_TERMS && j >= 0 && j < NUMBERS ? numbers[term * NUMBERS + j] : 0;
        }

        /** The term of a degree with these numbers, -1 if there is none. */
        int find(int degree, int a, int b, int c) {
            for (int term = start(degree); term < start(degree + 1); term++) {
                if (numberAt(term, 0) == a && numberAt(term, 1) == b && numberAt(term, 2) == c) {
                    return term;
                }
            }
            return -1;
        }

        /** A term as a bit among those of its degree, 0 for the term -1. */
        int bit(int degree, int term) {
            int place = term - start(degree);
            return place >= 0 && place < size(degree) ? 1 << place : 0;
        }
    }

    /** Products of ALLOWED CHAINS, as SUMS of such by THE RULE. */
    private static final class Squares {
        private final Basis allowed;
        private final int[] products = new int[ALL_TERMS * ALL_TERMS];

        Squares(Basis allowed) {
            this.allowed = allowed;
            fillUnit();
            fillSingles();
            fillLonger();
        }

        private void fillUnit() {
            for (int n = 0; n <= TOP; n++) {
                for (int v = allowed.start(n); v < allowed.start(n + 1); v++) {
                    put(0, v, allowed.bit(n, v));
                }
            }
        }

        // THE RULE leads to lesser degrees, or to greater first numbers in the same one: those are filled before.
        private void fillSingles() {
            for (int n = 1; n <= TOP; n++) {
                for (int a = n; a >= 1; a--) {
                    for (int v = allowed.start(n - a); v < allowed.start(n - a + 1); v++) {
                        put(single(a), v, timesTerm(a, v, n));
                    }
                }
            }
        }

        private void fillLonger() {
            for (int m = 1; m <= TOP; m++) {
                for (int u = allowed.start(m); u < single(m); u++) {
                    int first = allowed.numberAt(u, 0);
                    int rest = allowed.find(m - first, allowed.numberAt(u, 1), allowed.numberAt(u, 2), 0);
                    for (int n = 0; m + n <= TOP; n++) {
                        for (int v = allowed.start(n); v < allowed.start(n + 1); v++) {
                            put(u, v, timesSum(first, product(rest, v), m - first + n));
                        }
                    }
                }
            }
        }

        /** S(a) times an ALLOWED CHAIN, n the degree of both together. */
        private int timesTerm(int a, int term, int n) {
            int b = allowed.numberAt(term, 0);
            int second = allowed.numberAt(term, 1);
            int third = allowed.numberAt(term, 2);
            if (a >= 2 * b) {
                return allowed.bit(n, allowed.find(n, a, b, second));
            }
            int rest = allowed.find(n - a - b, second, third, 0);
            int sum = 0;
            for (int j = 0; j <= a / 2; j++) {
                if (isOdd(b - 1 - j, a - 2 * j)) {
                    sum ^= timesSum(a + b - j, product(single(j), rest), n - (a + b - j));
                }
            }
            return sum;
        }

        /** S(i) times a SUM of a degree. */
        int timesSum(int i, int sum, int degree) {
            int result = 0;
            int start = allowed.start(degree);
            for (int k = 0; k < allowed.size(degree); k++) {
                if ((sum >> k & 1) != 0) {
                    result ^= product(single(i), start + k);
                }
            }
            return result;
        }

        /** The term S(i): the last one of its degree, as its first number is the greatest. */
        int single(int i) {
            return allowed.start(i + 1) - 1;
        }

        private void put(int u, int v, int sum) {
            if (u >= 0 && u < ALL_TERMS && v >= 0 && v < ALL_TERMS) {
                products[u * ALL_TERMS + v] = sum;
            }
        }

        /** The product of two terms, as bits of the terms of its degree. */
        int product(int u, int v) {
            return u >= 0 && u < ALL_TERMS && v >= 0 && v < ALL_TERMS ? products[u * ALL_TERMS + v] : 0;
        }
    }

    /** THE PRODUCT of S(i) and ROWS. */
    private static final class RowProduct {
        private final Basis rows;

        RowProduct(Basis rows) {
            this.rows = rows;
        }

        /** S(i) times a SUM of ROWS of a degree. */
        int timesSum(int i, int sum, int degree) {
            int result = 0;
            for (int k = 0; k < rows.size(degree); k++) {
                if ((sum >> k & 1) != 0) {
                    result ^= timesRow(i, rows.start(degree) + k, degree + i);
                }
            }
            return result;
        }

        /**
         * S(i) times a ROW, n the degree of both together. As S(i) is (i, 0, 0, 0), the tables have x(1, j) and
         * x(0, j) alone; x(1, 3) above 0 would need i 8 and a third number of the ROW, a degree of 15.
         */
        private int timesRow(int i, int row, int n) {
            int s1 = rows.numberAt(row, 0);
            int s2 = rows.numberAt(row, 1);
            int s3 = rows.numberAt(row, 2);
            int result = 0;
            for (int x1 = 0; x1 <= s1; x1++) {
                for (int x2 = 0; x2 <= s2; x2++) {
                    int x0 = i - 2 * x1 - 4 * x2;
                    if (x0 >= 0 && (x0 & (s1 - x1)) == 0 && (x1 & (s2 - x2)) == 0 && (x2 & s3) == 0) {
                        result ^= rows.bit(n, rows.find(n, x0 + s1 - x1, x1 + s2 - x2, x2 + s3));
                    }
                }
            }
            return result;
        }
    }

    /** ELEMENTS, and what S(1) .. S(12) make of each. */
    private static final class Space {
        private final int[] degrees = new int[ELEMENTS];
        private final int[] acts = new int[ELEMENTS * (TOP_ACT + 1)];
        private final int[] faults = new int[3];
        private int size;
        private boolean checked;

        int size() {
            return size;
        }

        boolean has(int element) {
            return element >= 0 && element < size && element < ELEMENTS;
        }

        int degreeOf(int element) {
            return has(element) ? degrees[element] : 0;
        }

        int acted(int i, int element) {
            boolean told = element >= 0 && element < ELEMENTS && i >= 1 && i <= TOP_ACT;
            return told ? acts[element * (TOP_ACT + 1) + i] : 0;
        }

        void setAct(int i, int element, int bits) {
            if (has(element) && i >= 1 && i <= TOP_ACT) {
                acts[element * (TOP_ACT + 1) + i] = bits;
                checked = false;
            }
        }

        void restart() {
            size = 0;
            checked = false;
            Arrays.fill(acts, 0);
        }

        int add(int degree) {
            if (size >= ELEMENTS) {
                return FULL;
            }
            degrees[size] = degree;
            size++;
            checked = false;
            return size - 1;
        }

        /** ELEMENTS of degrees step m .. step n; S(step i) of that of degree step k is as C(k, i) tells. */
        void spread(int m, int n, int step) {
            restart();
            for (int k = m; k <= n; k++) {
                add(step * k);
            }
            for (int k = m; k <= n; k++) {
                for (int i = 1; k + i <= n && step * i <= TOP_ACT; i++) {
                    if (isOdd(k, i)) {
                        setAct(step * i, k - m, 1 << (k + i - m));
                    }
                }
            }
        }

        /** All ELEMENTS of a degree, as bits. */
        int ofDegree(int degree) {
            int bits = 0;
            for (int e = 0; e < size; e++) {
                if (degreeOf(e) == degree) {
                    bits |= 1 << e;
                }
            }
            return bits;
        }

        /** What S(i) makes of a SUM of ELEMENTS. */
        int apply(int i, int bits) {
            if (i == 0) {
                return bits;
            }
            int result = 0;
            for (int e = 0; e < size; e++) {
                if ((bits >> e & 1) != 0) {
                    result ^= acted(i, e);
                }
            }
            return result;
        }

        boolean isSound() {
            return firstFault(0) == NONE;
        }

        /** Where THE RULE fails first: 0 a, 1 b, 2 the ELEMENT; NONE if it holds. */
        int firstFault(int what) {
            if (!checked) {
                findFault();
                checked = true;
            }
            return what >= 0 && what < faults.length ? faults[what] : NONE;
        }

        private void findFault() {
            Arrays.fill(faults, NONE);
            // Above a degree of 12 in all there is nothing on either side.
            for (int a = 1; a <= TOP_ELEMENT; a++) {
                for (int b = a / 2 + 1; a + b <= TOP_ELEMENT; b++) {
                    for (int e = 0; e < size; e++) {
                        if (apply(a, acted(b, e)) != byTheRule(a, b, e)) {
                            faults[0] = a;
                            faults[1] = b;
                            faults[2] = e;
                            return;
                        }
                    }
                }
            }
        }

        private int byTheRule(int a, int b, int element) {
            int result = 0;
            for (int j = 0; j <= a / 2; j++) {
                if (isOdd(b - 1 - j, a - 2 * j)) {
                    result ^= apply(a + b - j, apply(j, 1 << element));
                }
            }
            return result;
        }
    }

    /** Rows of bits in one array, which is used again for rows of another width. */
    private static final class BitRows {
        private final long[] cells;
        private int words;
        private int count;

        BitRows(int mostRows) {
            cells = new long[Math.max(0, mostRows) * WORDS];
            words = WORDS;
            count = 0;
        }

        void restart(int places) {
            words = Math.max(1, Math.min(WORDS, (places + 63) / 64));
            count = 0;
        }

        int height() {
            return count;
        }

        /** A new row without bits: its number, -1 if there is no room. */
        int open() {
            if ((count + 1) * words > cells.length) {
                return -1;
            }
            for (int w = 0; w < words; w++) {
                cells[count * words + w] = 0;
            }
            count++;
            return count - 1;
        }

        void dropLast() {
            count = Math.max(0, count - 1);
        }

        private long word(int row, int w) {
            return row >= 0 && row < count && w >= 0 && w < words ? cells[row * words + w] : 0;
        }

        private void flipWord(int row, int w, long bits) {
            if (row >= 0 && row < count && w >= 0 && w < words) {
                cells[row * words + w] ^= bits;
            }
        }

        int bit(int row, int place) {
            return (int) (word(row, place >> 6) >>> (place & 63) & 1);
        }

        /** A row's places 0 .. 30, as one number. */
        int firstBits(int row) {
            return (int) (word(row, 0) & 0x7fffffffL);
        }

        /** Bits from a place on are added by twos. */
        void flip(int row, int place, int bits) {
            int shift = place & 63;
            flipWord(row, place >> 6, (long) bits << shift);
            if (shift > 32) {
                flipWord(row, (place >> 6) + 1, (long) bits >>> (64 - shift));
            }
        }

        void add(int row, int other) {
            if (row < 0 || row >= count || other < 0 || other >= count) {
                return;
            }
            for (int w = 0; w < words; w++) {
                cells[row * words + w] ^= cells[other * words + w];
            }
        }

        /** The place of a row's first bit from a place on, -1 if it has none there. */
        int next(int row, int from) {
            if (row < 0 || row >= count || from < 0) {
                return -1;
            }
            long mask = -1L << (from & 63);
            for (int w = from >> 6; w < words; w++) {
                long bits = cells[row * words + w] & mask;
                if (bits != 0) {
                    return w * 64 + Long.bitCount((bits & -bits) - 1);
                }
                mask = -1L;
            }
            return -1;
        }

        /** A new row as another table has it. */
        int copy(BitRows table, int row) {
            int made = open();
            for (int w = 0; w < words; w++) {
                flipWord(made, w, table.word(row, w));
            }
            return made;
        }
    }

    /**
     * One free space F(s): its generators by degrees, and what each goes to. Its places of a degree are the products
     * of ALLOWED CHAINS and generators, by generators and then by CHAINS.
     */
    private static final class Floor {
        private final Basis allowed;
        private final int[] degrees = new int[GENERATORS];
        private final BitRows goals = new BitRows(GENERATORS);
        private int generators;

        Floor(Basis allowed) {
            this.allowed = allowed;
        }

        void restart() {
            generators = 0;
            goals.restart(PLACES);
        }

        int generators() {
            return generators;
        }

        int degreeOf(int generator) {
            return generator >= 0 && generator < GENERATORS ? degrees[generator] : 0;
        }

        BitRows goals() {
            return goals;
        }

        void add(int degree, BitRows table, int row) {
            if (generators < GENERATORS && goals.copy(table, row) == generators) {
                degrees[generators] = degree;
                generators++;
            }
        }

        /** How many places a generator has in a degree. */
        int width(int generator, int degree) {
            return allowed.size(degree - degreeOf(generator));
        }

        /** How many places there are in a degree. */
        int places(int degree) {
            int places = 0;
            for (int g = 0; g < generators; g++) {
                places += width(g, degree);
            }
            return places;
        }

        int generatorsOf(int degree) {
            int found = 0;
            for (int g = 0; g < generators; g++) {
                if (degreeOf(g) == degree) {
                    found++;
                }
            }
            return found;
        }
    }

    /** THE TOWER over the SPACE as far as calls have needed it, degree by degree. */
    private static final class Tower {
        private final Basis allowed;
        private final Squares squares;
        private final Space space;
        private final Floor[] floors = new Floor[FLOORS];
        /** What goes to nothing in one degree: of the floor at work and of the one ahead of it, turn by turn. */
        private final BitRows[] kernels = new BitRows[2];
        /** Independent rows of what floors' places go to, and of which places each is made. */
        private final BitRows values = new BitRows(RANKS + 1);
        private final BitRows sources = new BitRows(RANKS + 1);
        private final int[] pivots = new int[WORDS * 64];
        /** The CHAIN at each place of the lower floor in one degree; where its generator's places begin in another. */
        private final int[] chainAt = new int[WORDS * 64];
        private final int[] targetAt = new int[WORDS * 64];
        private final int[] kept = new int[ELEMENTS];
        private int built;

        Tower(Basis allowed, Squares squares, Space space) {
            this.allowed = allowed;
            this.squares = squares;
            this.space = space;
            for (int s = 0; s < FLOORS; s++) {
                floors[s] = new Floor(allowed);
            }
            kernels[0] = new BitRows(RANKS);
            kernels[1] = new BitRows(RANKS);
        }

        void restart() {
            built = 0;
        }

        int generatorsAt(int s, int t) {
            return s >= 0 && s < FLOORS ? floors[s].generatorsOf(t) : 0;
        }

        int turnByTurn(int t) {
            int total = 0;
            for (int s = 0; s < FLOORS; s++) {
                total += s % 2 == 0 ? floors[s].places(t) : -floors[s].places(t);
            }
            return total;
        }

        int rankOfJoins(int i, int s, int t) {
            int top = t + (1 << i);
            int rank = 0;
            if (s < 0 || s + 1 >= FLOORS) {
                return rank;
            }
            Floor upper = floors[s + 1];
            for (int f = 0; f < upper.generators(); f++) {
                if (upper.degreeOf(f) == top) {
                    int row = joinsOf(floors[s], upper.goals(), f, t, top);
                    for (int k = 0; k < rank; k++) {
                        row = Math.min(row, row ^ kept[k]);
                    }
                    if (row != 0 && rank < kept.length) {
                        kept[rank] = row;
                        rank++;
                    }
                }
            }
            return rank;
        }

        /** Which generators of degree t have S(top - t), the last CHAIN of its degree, in a goal; as bits. */
        private static int joinsOf(Floor lower, BitRows goals, int f, int t, int top) {
            int row = 0;
            int place = 0;
            int seen = 0;
            for (int g = 0; g < lower.generators(); g++) {
                place += lower.width(g, top);
                if (lower.degreeOf(g) == t) {
                    row |= goals.bit(f, place - 1) << seen;
                    seen++;
                }
            }
            return row;
        }

        /** What is asked of degrees up to the top one stands from then on, until the restart. */
        void build(int top) {
            if (built == 0) {
                for (int s = 0; s < FLOORS; s++) {
                    floors[s].restart();
                }
            }
            for (int t = built; t <= top && t <= TOP; t++) {
                buildDegree(t);
                built = t + 1;
            }
        }

        private void buildDegree(int t) {
            BitRows below = kernels[1];
            listElements(below, space.ofDegree(t));
            Floor lower = null;
            for (int s = 0; s < FLOORS; s++) {
                Floor floor = floors[s];
                BitRows here = kernels[s % 2];
                int goalPlaces = lower == null ? ELEMENTS : lower.places(t);
                int places = floor.places(t);
                values.restart(goalPlaces);
                sources.restart(places);
                here.restart(places);
                Arrays.fill(pivots, 0, Math.min(goalPlaces, pivots.length), -1);
                carryOver(floor, lower, t, here);
                cover(floor, below, t);
                lower = floor;
                below = here;
            }
        }

        /** All that the SPACE has of a degree goes to nothing below it. */
        private static void listElements(BitRows table, int bits) {
            table.restart(ELEMENTS);
            for (int e = 0; e < ELEMENTS; e++) {
                if ((bits >> e & 1) != 0) {
                    table.flip(table.open(), e, 1);
                }
            }
        }

        /**
         * What the generators of lesser degrees reach in degree t, and what of theirs goes to nothing there. Without
         * a lower floor they go to the SPACE.
         */
        private void carryOver(Floor floor, Floor lower, int t, BitRows nothing) {
            int place = 0;
            int listed = -1;
            for (int g = 0; g < floor.generators(); g++) {
                int degree = floor.degreeOf(g);
                if (lower != null && degree != listed) {
                    listPlaces(lower, degree, t);
                    listed = degree;
                }
                int start = allowed.start(t - degree);
                int width = allowed.size(t - degree);
                for (int k = 0; k < width; k++) {
                    int row = values.open();
                    sources.flip(sources.open(), place, 1);
                    if (lower != null) {
                        putProduct(row, start + k, floor.goals(), g);
                    } else {
                        values.flip(row, 0, applyChain(start + k, floor.goals().firstBits(g)));
                    }
                    keepOrDrop(row, nothing);
                    place++;
                }
            }
        }

        private void listPlaces(Floor lower, int degree, int t) {
            int place = 0;
            int target = 0;
            for (int h = 0; h < lower.generators(); h++) {
                int start = allowed.start(degree - lower.degreeOf(h));
                int width = lower.width(h, degree);
                for (int k = 0; k < width && place < chainAt.length && place < targetAt.length; k++) {
                    chainAt[place] = start + k;
                    targetAt[place] = target;
                    place++;
                }
                target += lower.width(h, t);
            }
        }

        /** A CHAIN times what a generator goes to, in the places that are listed. */
        private void putProduct(int row, int chain, BitRows goals, int generator) {
            int place = -1;
            for (int turn = 0; turn < chainAt.length; turn++) {
                place = goals.next(generator, place + 1);
                if (place < 0 || place >= chainAt.length || place >= targetAt.length) {
                    return;
                }
                values.flip(row, targetAt[place], squares.product(chain, chainAt[place]));
            }
        }

        private int applyChain(int chain, int bits) {
            int result = bits;
            for (int j = NUMBERS - 1; j >= 0; j--) {
                result = space.apply(allowed.numberAt(chain, j), result);
            }
            return result;
        }

        private void keepOrDrop(int row, BitRows nothing) {
            int lead = reduce(row);
            if (lead >= 0 && lead < pivots.length) {
                pivots[lead] = row;
            } else if (row >= 0) {
                nothing.copy(sources, row);
                values.dropLast();
                sources.dropLast();
            }
        }

        /** Each row below that is not reached yet is what a new generator goes to. */
        private void cover(Floor floor, BitRows below, int t) {
            for (int k = 0; k < below.height(); k++) {
                int row = values.copy(below, k);
                sources.open();
                int lead = reduce(row);
                if (lead >= 0 && lead < pivots.length) {
                    pivots[lead] = row;
                    floor.add(t, values, row);
                } else if (row >= 0) {
                    values.dropLast();
                    sources.dropLast();
                }
            }
        }

        /** The kept rows that lead where this one does are added to it: where it leads then, -1 for nowhere. */
        private int reduce(int row) {
            int lead = 0;
            for (int turn = 0; turn <= pivots.length; turn++) {
                lead = values.next(row, lead);
                if (lead < 0 || lead >= pivots.length) {
                    return -1;
                }
                int other = pivots[lead];
                if (other < 0) {
                    return lead;
                }
                values.add(row, other);
                sources.add(row, other);
            }
            return -1;
        }
    }

    /** The ranks of the DIFFERENCES that have been told. */
    private static final class Chart {
        private final int[] ranks = new int[(LONGEST - SHORTEST + 1) * FLOORS * (TOP + 1)];

        private static int index(int r, int s, int t) {
            if (r < SHORTEST || r > LONGEST || !isInChart(s, t)) {
                return -1;
            }
            return ((r - SHORTEST) * FLOORS + s) * (TOP + 1) + t;
        }

        void wipe() {
            Arrays.fill(ranks, 0);
        }

        void tell(int r, int s, int t, int rank) {
            int index = index(r, s, t);
            if (index >= 0 && index < ranks.length) {
                ranks[index] = rank;
            }
        }

        /** The rank of the DIFFERENCE from a place, 0 where there is none. */
        int rankOf(int r, int s, int t) {
            int index = index(r, s, t);
            return index >= 0 && index < ranks.length ? ranks[index] : 0;
        }

        /** The ranks of length r from a place and to it, together. */
        int spent(int r, int s, int t) {
            return rankOf(r, s, t) + rankOf(r, s - r, t - r + 1);
        }

        int told() {
            return toldFrom(0);
        }

        boolean isLongerTold(int r) {
            return r < LONGEST && toldFrom(Math.max(0, index(r + 1, 0, 0))) > 0;
        }

        private int toldFrom(int index) {
            int told = 0;
            for (int k = Math.max(0, index); k < ranks.length; k++) {
                if (ranks[k] > 0) {
                    told++;
                }
            }
            return told;
        }
    }
}
