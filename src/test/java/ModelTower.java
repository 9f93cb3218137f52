import java.math.BigInteger;
import java.util.ArrayList;
import java.util.HashMap;
import java.util.List;
import java.util.Map;
import java.util.TreeMap;

/** A least tower over ROWS. Rows of bits are BigIntegers; the last of what is to be covered is covered first. */
final class ModelTower {
    interface Action {
        int apply(List<Integer> row, int bits);
    }

    private static final int FLOORS = 6;
    private static final Map<List<Object>, int[]> PRODUCTS = new HashMap<>();

    private final List<Integer> degrees;
    private final Action action;
    private final List<List<Integer>> generators = new ArrayList<>();
    private final List<List<BigInteger>> goals = new ArrayList<>();
    private int built = 0;

    ModelTower(List<Integer> degrees, Action action) {
        this.degrees = new ArrayList<>(degrees);
        this.action = action;
        for (int s = 0; s < FLOORS; s++) {
            generators.add(new ArrayList<>());
            goals.add(new ArrayList<>());
        }
    }

    private static int rowsOf(int degree) {
        return degree < 0 ? 0 : Model.ModelWords.allRows(degree).size();
    }

    /** Number k of one degree times number l of another: the places of the ROWS in it. */
    private static int[] product(int m, int k, int n, int l) {
        return PRODUCTS.computeIfAbsent(List.of(m, k, n, l), key -> {
            List<List<Integer>> all = Model.ModelWords.allRows(m + n);
            return Model.ModelWords.product(Model.ModelWords.allRows(m).get(k), Model.ModelWords.allRows(n).get(l))
                    .stream().mapToInt(all::indexOf).toArray();
        });
    }

    int places(int s, int t) {
        build(t);
        int places = 0;
        for (int d : generators.get(s)) {
            places += rowsOf(t - d);
        }
        return places;
    }

    int live(int s, int t) {
        build(t);
        int found = 0;
        for (int d : generators.get(s)) {
            found += d == t ? 1 : 0;
        }
        return found;
    }

    int joins(int i, int s, int t) {
        int top = t + (1 << i);
        build(top);
        List<BigInteger> table = new ArrayList<>();
        for (int f = 0; f < generators.get(s + 1).size(); f++) {
            if (generators.get(s + 1).get(f) != top) {
                continue;
            }
            BigInteger row = BigInteger.ZERO;
            int place = 0;
            for (int g = 0; g < generators.get(s).size(); g++) {
                int d = generators.get(s).get(g);
                // S(2^i) is the ROW (2^i, 0, 0, 0), the last of its degree.
                if (d == t && goals.get(s + 1).get(f).testBit(place + rowsOf(1 << i) - 1)) {
                    row = row.setBit(g);
                }
                place += rowsOf(top - d);
            }
            table.add(row);
        }
        return new Echelon().addAll(table);
    }

    private void build(int top) {
        for (; built <= top; built++) {
            List<BigInteger> below = new ArrayList<>();
            for (int e = 0; e < degrees.size(); e++) {
                if (degrees.get(e) == built) {
                    below.add(BigInteger.ONE.shiftLeft(e));
                }
            }
            for (int s = 0; s < FLOORS; s++) {
                below = buildFloor(s, built, below);
            }
        }
    }

    private List<BigInteger> buildFloor(int s, int t, List<BigInteger> below) {
        Echelon reached = new Echelon();
        List<BigInteger> nothing = new ArrayList<>();
        int place = 0;
        for (int g = 0; g < generators.get(s).size(); g++) {
            int d = generators.get(s).get(g);
            for (int k = 0; k < rowsOf(t - d); k++) {
                BigInteger left = reached.add(image(s, d, g, t, k), BigInteger.ONE.shiftLeft(place));
                if (left != null) {
                    nothing.add(left);
                }
                place++;
            }
        }
        for (int k = below.size() - 1; k >= 0; k--) {
            if (reached.add(below.get(k), BigInteger.ZERO) == null) {
                generators.get(s).add(t);
                goals.get(s).add(below.get(k));
            }
        }
        return nothing;
    }

    private BigInteger image(int s, int d, int g, int t, int k) {
        BigInteger goal = goals.get(s).get(g);
        if (s == 0) {
            return BigInteger.valueOf(action.apply(Model.ModelWords.allRows(t - d).get(k), goal.intValue()));
        }
        BigInteger image = BigInteger.ZERO;
        int from = 0;
        int to = 0;
        for (int h : generators.get(s - 1)) {
            for (int l = 0; l < rowsOf(d - h); l++) {
                if (goal.testBit(from + l)) {
                    for (int term : product(t - d, k, d - h, l)) {
                        image = image.flipBit(to + term);
                    }
                }
            }
            from += rowsOf(d - h);
            to += rowsOf(t - h);
        }
        return image;
    }

    /** Independent rows by their highest bits. */
    static final class Echelon {
        private final TreeMap<Integer, BigInteger> rows = new TreeMap<>();
        private final TreeMap<Integer, BigInteger> sources = new TreeMap<>();

        /** Null, if the row is independent and kept; else the sources whose sum is nothing. */
        BigInteger add(BigInteger row, BigInteger source) {
            while (row.signum() != 0) {
                int lead = row.bitLength() - 1;
                if (!rows.containsKey(lead)) {
                    rows.put(lead, row);
                    sources.put(lead, source);
                    return null;
                }
                row = row.xor(rows.get(lead));
                source = source.xor(sources.get(lead));
            }
            return source;
        }

        int addAll(List<BigInteger> table) {
            for (BigInteger row : table) {
                add(row, BigInteger.ZERO);
            }
            return rows.size();
        }
    }
}
