import java.math.BigInteger;
import java.util.ArrayList;
import java.util.Arrays;
import java.util.HashMap;
import java.util.List;
import java.util.Map;
import java.util.TreeMap;
import java.util.TreeSet;

/**
 * The document once more, slow and by other ways, to compare with: chains by rewriting as THE RULE is told, ROWS by
 * THE PRODUCT with all its tables, THE TOWER over ROWS (not CHAINS) with other choices of generators.
 */
final class Model {
    static final int BAD = -1, STATE = -2, FULL = -3, NONE = -9;
    private static final int TOP = 14, FLOORS = 6;

    private final List<Integer> chain = new ArrayList<>();
    private final List<Integer> degrees = new ArrayList<>();
    private final Map<List<Integer>, Integer> acts = new HashMap<>();
    private final Map<List<Integer>, Integer> ranks = new HashMap<>();
    private int[] faultFound;
    private ModelTower tower;

    // ---- words

    int square(int i) {
        if (i < 0 || i > TOP || degree() + i > TOP) {
            return BAD;
        }
        if (chain.size() == 6) {
            return FULL;
        }
        chain.add(i);
        return chain.size();
    }

    int clear() {
        int had = chain.size();
        chain.clear();
        return had;
    }

    int sum(int what) {
        return what == 0 ? ModelWords.allowed(chain).size() : what == 1 ? ModelWords.rows(chain).size() : BAD;
    }

    int term(int what, int i, int j) {
        if (what != 0 && what != 1 || j < 0 || what == 1 && j > 3) {
            return BAD;
        }
        List<List<Integer>> sum = new ArrayList<>(what == 0 ? ModelWords.allowed(chain) : ModelWords.rows(chain));
        if (i < 0 || i >= sum.size()) {
            return BAD;
        }
        return j < sum.get(i).size() ? sum.get(i).get(j) : NONE;
    }

    int many(int degree) {
        return degree < 0 || degree > TOP ? BAD : ModelWords.allAllowed(degree).size();
    }

    private int degree() {
        int degree = 0;
        for (int i : chain) {
            degree += i;
        }
        return degree;
    }

    // ---- spaces

    int empty() {
        int had = degrees.size();
        degrees.clear();
        acts.clear();
        changed();
        return had;
    }

    int element(int degree) {
        if (degree < 0 || degree > 12) {
            return BAD;
        }
        if (degrees.size() == 12) {
            return FULL;
        }
        degrees.add(degree);
        changed();
        return degrees.size() - 1;
    }

    int act(int i, int element, int bits) {
        if (i < 1 || i > 12 || element < 0 || element >= degrees.size()) {
            return BAD;
        }
        for (int b = 0; b < 32; b++) {
            boolean right = b < degrees.size() && degrees.get(b) == degrees.get(element) + i;
            if ((bits >>> b & 1) == 1 && !right) {
                return BAD;
            }
        }
        Integer was = acts.put(Arrays.asList(i, element), bits);
        changed();
        return was == null ? 0 : was;
    }

    int space(int name, int m, int n) {
        boolean fits = name == 0 ? n >= 0 && n <= 12
                : name == 1 ? m >= 1 && m <= n && n <= 12 : name == 2 && m >= 0 && m <= n && n <= 6;
        if (!fits) {
            return BAD;
        }
        empty();
        int least = name == 0 ? n : m;
        int step = name == 2 ? 2 : 1;
        for (int k = least; k <= n; k++) {
            degrees.add(step * k);
            for (int i = 1; k + i <= n; i++) {
                if (ModelWords.choicesOdd(k, i)) {
                    acts.put(Arrays.asList(step * i, k - least), 1 << (k + i - least));
                }
            }
        }
        return degrees.size();
    }

    int does(int element) {
        if (element < 0 || element >= degrees.size()) {
            return BAD;
        }
        int bits = 1 << element;
        for (int k = chain.size() - 1; k >= 0; k--) {
            bits = apply(chain.get(k), bits);
        }
        return bits;
    }

    int about(int element, int what) {
        if (element < 0 || element >= degrees.size() || what < 0 || what > 12) {
            return BAD;
        }
        return what == 0 ? degrees.get(element) : acts.getOrDefault(Arrays.asList(what, element), 0);
    }

    int fault(int what) {
        if (what < 0 || what > 2) {
            return BAD;
        }
        if (faultFound == null) {
            faultFound = findFault();
        }
        return faultFound[what];
    }

    private int apply(int i, int bits) {
        int result = i == 0 ? bits : 0;
        for (int e = 0; i > 0 && e < degrees.size(); e++) {
            if ((bits >> e & 1) == 1) {
                result ^= acts.getOrDefault(Arrays.asList(i, e), 0);
            }
        }
        return result;
    }

    private int[] findFault() {
        for (int a = 1; a <= 26; a++) {
            for (int b = 1; b <= 26; b++) {
                for (int e = 0; a < 2 * b && e < degrees.size(); e++) {
                    int right = 0;
                    for (int j = 0; 2 * j <= a; j++) {
                        if (ModelWords.choicesOdd(b - 1 - j, a - 2 * j)) {
                            right ^= apply(a + b - j, apply(j, 1 << e));
                        }
                    }
                    if (apply(a, apply(b, 1 << e)) != right) {
                        return new int[] {a, b, e};
                    }
                }
            }
        }
        return new int[] {NONE, NONE, NONE};
    }

    private void changed() {
        ranks.clear();
        faultFound = null;
        tower = null;
    }

    // ---- towers

    private ModelTower tower() {
        if (tower == null) {
            tower = new ModelTower(degrees, this::applyRow);
        }
        return tower;
    }

    /** A ROW is a SUM of CHAINS: these act. */
    private int applyRow(List<Integer> row, int bits) {
        int result = 0;
        for (List<Integer> word : ModelWords.chainsOfRow(row)) {
            int made = bits;
            for (int k = word.size() - 1; k >= 0; k--) {
                made = apply(word.get(k), made);
            }
            result ^= made;
        }
        return result;
    }

    private boolean sound() {
        return fault(0) == NONE;
    }

    private static boolean inChart(int s, int t) {
        return s >= 0 && s < FLOORS && t >= 0 && t <= TOP;
    }

    int live(int s, int t) {
        return !inChart(s, t) ? BAD : !sound() ? STATE : tower().live(s, t);
    }

    int joins(int i, int s, int t) {
        if (i < 0 || i > 3 || s < 0 || s > 4 || t < 0 || t > TOP || t + (1 << i) > TOP) {
            return BAD;
        }
        return !sound() ? STATE : tower().joins(i, s, t);
    }

    int balance(int t) {
        if (t < 0 || t > TOP) {
            return -1000000;
        }
        if (!sound()) {
            return -2000000;
        }
        int total = 0;
        for (int s = 0; s < FLOORS; s++) {
            total += (s % 2 == 0 ? 1 : -1) * tower().places(s, t);
        }
        for (int d : degrees) {
            total -= d == t ? 1 : 0;
        }
        return total;
    }

    // ---- differences

    private int rank(int r, int s, int t) {
        return ranks.getOrDefault(Arrays.asList(r, s, t), 0);
    }

    private int spent(int r, int s, int t) {
        return rank(r, s, t) + rank(r, s - r, t - r + 1);
    }

    int differ(int r, int s, int t, int rank) {
        if (r < 2 || r > 4 || !inChart(s, t) || rank < 1 || rank > 99 || !inChart(s + r, t + r - 1)) {
            return BAD;
        }
        if (!sound() || rank(r, s, t) > 0) {
            return STATE;
        }
        for (List<Integer> told : ranks.keySet()) {
            if (told.get(0) > r) {
                return STATE;
            }
        }
        if (spent(r, s, t) + rank > page(r, s, t) || spent(r, s + r, t + r - 1) + rank > page(r, s + r, t + r - 1)) {
            return STATE;
        }
        ranks.put(Arrays.asList(r, s, t), rank);
        return 1;
    }

    int page(int r, int s, int t) {
        if (r < 2 || r > 5 || !inChart(s, t)) {
            return BAD;
        }
        if (!sound()) {
            return STATE;
        }
        return r == 2 ? live(s, t) : page(r - 1, s, t) - spent(r - 1, s, t);
    }

    int count(int what) {
        switch (what) {
            case 0: return chain.size();
            case 1: return degree();
            case 2: return degrees.size();
            case 3: return ranks.size();
            default: return BAD;
        }
    }

    /** Chains and ROWS as lists of numbers, SUMS as sorted sets of them. */
    static final class ModelWords {
        private static final Map<List<List<Integer>>, TreeSet<List<Integer>>> PRODUCTS = new HashMap<>();
        private static final Map<List<Integer>, TreeSet<List<Integer>>> CHAINS_OF_ROWS = new HashMap<>();

        static boolean choicesOdd(int n, int k) {
            if (k < 0 || k > n) {
                return false;
            }
            BigInteger choices = BigInteger.ONE;
            for (int i = 1; i <= k; i++) {
                choices = choices.multiply(BigInteger.valueOf(n - k + i)).divide(BigInteger.valueOf(i));
            }
            return choices.testBit(0);
        }

        static TreeSet<List<Integer>> emptySum() {
            return new TreeSet<>((x, y) -> {
                for (int k = 0; k < Math.min(x.size(), y.size()); k++) {
                    if (!x.get(k).equals(y.get(k))) {
                        return Integer.compare(x.get(k), y.get(k));
                    }
                }
                return Integer.compare(x.size(), y.size());
            });
        }

        static void add(TreeSet<List<Integer>> sum, List<Integer> term) {
            if (!sum.remove(term)) {
                sum.add(term);
            }
        }

        /** Rewrites the last pair that is not allowed, until there is none. */
        static TreeSet<List<Integer>> allowed(List<Integer> chain) {
            TreeSet<List<Integer>> done = emptySum();
            TreeSet<List<Integer>> open = emptySum();
            add(open, withoutZeros(chain));
            while (!open.isEmpty()) {
                List<Integer> word = open.pollLast();
                int k = word.size() - 2;
                while (k >= 0 && word.get(k) >= 2 * word.get(k + 1)) {
                    k--;
                }
                if (k < 0) {
                    add(done, word);
                    continue;
                }
                int a = word.get(k);
                int b = word.get(k + 1);
                for (int j = 0; j <= a / 2; j++) {
                    if (choicesOdd(b - 1 - j, a - 2 * j)) {
                        List<Integer> next = new ArrayList<>(word);
                        next.set(k, a + b - j);
                        next.set(k + 1, j);
                        add(open, withoutZeros(next));
                    }
                }
            }
            return done;
        }

        private static List<Integer> withoutZeros(List<Integer> word) {
            List<Integer> rest = new ArrayList<>(word);
            rest.removeIf(i -> i == 0);
            return rest;
        }

        static TreeSet<List<Integer>> allAllowed(int degree) {
            TreeSet<List<Integer>> all = emptySum();
            extend(new ArrayList<>(), degree, all);
            return all;
        }

        private static void extend(List<Integer> word, int left, TreeSet<List<Integer>> all) {
            if (left == 0) {
                all.add(new ArrayList<>(word));
            }
            for (int i = 1; i <= left; i++) {
                if (word.isEmpty() || word.get(word.size() - 1) >= 2 * i) {
                    word.add(i);
                    extend(word, left - i, all);
                    word.remove(word.size() - 1);
                }
            }
        }

        static TreeSet<List<Integer>> rows(List<Integer> chain) {
            TreeSet<List<Integer>> sum = emptySum();
            sum.add(Arrays.asList(0, 0, 0, 0));
            for (int k = chain.size() - 1; k >= 0; k--) {
                TreeSet<List<Integer>> next = emptySum();
                for (List<Integer> row : sum) {
                    for (List<Integer> term : product(Arrays.asList(chain.get(k), 0, 0, 0), row)) {
                        add(next, term);
                    }
                }
                sum = next;
            }
            return sum;
        }

        static List<List<Integer>> allRows(int degree) {
            List<List<Integer>> all = new ArrayList<>();
            for (int r1 = 0; r1 <= degree; r1++) {
                for (int r2 = 0; r1 + 3 * r2 <= degree; r2++) {
                    for (int r3 = 0; r1 + 3 * r2 + 7 * r3 <= degree; r3++) {
                        int r4 = (degree - r1 - 3 * r2 - 7 * r3) / 15;
                        if (r1 + 3 * r2 + 7 * r3 + 15 * r4 == degree) {
                            all.add(Arrays.asList(r1, r2, r3, r4));
                        }
                    }
                }
            }
            return all;
        }

        static TreeSet<List<Integer>> product(List<Integer> r, List<Integer> s) {
            return PRODUCTS.computeIfAbsent(Arrays.asList(r, s), key -> {
                TreeSet<List<Integer>> sum = emptySum();
                fillTable(new int[5][5], 1, r, s, sum);
                return sum;
            });
        }

        /** Cells 1 .. 24 of the table, row by row; x(i, 0) and x(0, j) are what is left of r(i) and s(j) at the end. */
        private static void fillTable(int[][] x, int cell, List<Integer> r, List<Integer> s, TreeSet<List<Integer>> sum) {
            if (cell == 25) {
                addTable(x, r, s, sum);
                return;
            }
            int i = cell / 5;
            int j = cell % 5;
            if (i == 0 || j == 0) {
                fillTable(x, cell + 1, r, s, sum);
                return;
            }
            int most = Math.min(r.get(i - 1) >> j, s.get(j - 1));
            for (int value = 0; value <= most; value++) {
                x[i][j] = value;
                fillTable(x, cell + 1, r, s, sum);
            }
            x[i][j] = 0;
        }

        private static void addTable(int[][] x, List<Integer> r, List<Integer> s, TreeSet<List<Integer>> sum) {
            for (int k = 1; k <= 4; k++) {
                x[k][0] = r.get(k - 1);
                x[0][k] = s.get(k - 1);
                for (int other = 1; other <= 4; other++) {
                    x[k][0] -= x[k][other] << other;
                    x[0][k] -= x[other][k];
                }
                if (x[k][0] < 0 || x[0][k] < 0) {
                    return;
                }
            }
            int[] row = new int[9];
            for (int i = 0; i <= 4; i++) {
                for (int j = 0; j <= 4; j++) {
                    if (i + j > 0) {
                        if ((row[i + j] & x[i][j]) != 0) {
                            return;
                        }
                        row[i + j] += x[i][j];
                    }
                }
            }
            if (row[5] + row[6] + row[7] + row[8] > 0) {
                throw new IllegalStateException("a ROW of more than four numbers");
            }
            add(sum, Arrays.asList(row[1], row[2], row[3], row[4]));
        }

        /** The SUM of ALLOWED CHAINS that a ROW is, by elimination. */
        static TreeSet<List<Integer>> chainsOfRow(List<Integer> row) {
            return CHAINS_OF_ROWS.computeIfAbsent(row, key -> {
                int degree = row.get(0) + 3 * row.get(1) + 7 * row.get(2) + 15 * row.get(3);
                TreeMap<List<Integer>, TreeSet<List<Integer>>> rowsBy = new TreeMap<>(emptySum().comparator());
                TreeMap<List<Integer>, TreeSet<List<Integer>>> chainsBy = new TreeMap<>(emptySum().comparator());
                for (List<Integer> word : allAllowed(degree)) {
                    TreeSet<List<Integer>> rows = rows(word);
                    TreeSet<List<Integer>> chains = emptySum();
                    chains.add(word);
                    reduce(rows, chains, rowsBy, chainsBy);
                    rowsBy.put(rows.first(), rows);
                    chainsBy.put(rows.first(), chains);
                }
                TreeSet<List<Integer>> wanted = emptySum();
                wanted.add(row);
                TreeSet<List<Integer>> answer = emptySum();
                reduce(wanted, answer, rowsBy, chainsBy);
                if (!wanted.isEmpty()) {
                    throw new IllegalStateException("no SUM of CHAINS is the ROW " + row);
                }
                return answer;
            });
        }

        private static void reduce(TreeSet<List<Integer>> rows, TreeSet<List<Integer>> chains,
                TreeMap<List<Integer>, TreeSet<List<Integer>>> rowsBy,
                TreeMap<List<Integer>, TreeSet<List<Integer>>> chainsBy) {
            while (!rows.isEmpty() && rowsBy.containsKey(rows.first())) {
                List<Integer> lead = rows.first();
                for (List<Integer> term : rowsBy.get(lead)) {
                    add(rows, term);
                }
                for (List<Integer> term : chainsBy.get(lead)) {
                    add(chains, term);
                }
            }
        }
    }
}
