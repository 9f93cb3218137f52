import java.math.BigInteger;
import java.util.ArrayList;
import java.util.Arrays;
import java.util.HashMap;
import java.util.List;
import java.util.Map;
import java.util.TreeSet;

/**
 * Promise 14 without a tower: what lives at (s, t) is what goes to nothing, less what comes from above, in the complex
 * of all words [a1 | .. | as | e] of ROWS of degrees above 0 and an ELEMENT, where neighbours are multiplied in turn.
 */
public final class BarTest {
    private final SquareTower real;
    private final Recipe recipe;
    private final Map<List<Integer>, List<List<List<Integer>>>> words = new HashMap<>();

    private BarTest(SquareTower real, Recipe recipe) {
        this.real = real;
        this.recipe = recipe;
    }

    public static void main(String[] args) {
        check("POINT", Recipe.piece(0, 1, 1, 0), 10);
        check("LINES 1 9", Recipe.piece(1, 9, 1, 1), 7);
        check("LINES 3 6", Recipe.piece(3, 4, 1, 3), 10);
        check("PAIRS 0 4", Recipe.piece(0, 5, 2, 0), 7);
        check("PAIRS 2 4", Recipe.piece(2, 3, 2, 4), 10);
        check("below 0", Recipe.piece(-2, 6, 1, 0), 7);
        for (int seed = 0; seed < 25; seed++) {
            check("recipe " + seed, Recipe.chosen(new Dice(5000 + seed)), 6);
        }
        Check.finish("BarTest");
    }

    private static void check(String name, Recipe recipe, int top) {
        SquareTower x = new SquareTower();
        for (int degree : recipe.degrees) {
            x.element(degree);
        }
        for (int e = 0; e < recipe.degrees.size(); e++) {
            for (int i = 1; i <= 12; i++) {
                if (recipe.acts.get(e)[i] != 0) {
                    x.act(i, e, recipe.acts.get(e)[i]);
                }
            }
        }
        new BarTest(x, recipe).compare(name, top);
    }

    private void compare(String name, int top) {
        for (int t = 0; t <= top; t++) {
            int above = 0;
            for (int s = 6; s >= 0; s--) {
                int rank = s == 0 ? 0 : rank(s, t);
                if (s < 6) {
                    Check.due(name + ", live(" + s + ", " + t + ")", real.live(s, t),
                            wordsOf(s, t).size() - rank - above);
                }
                above = rank;
            }
        }
    }

    /** All words of s ROWS and an ELEMENT, which stands at the end as (its number). */
    private List<List<List<Integer>>> wordsOf(int s, int t) {
        List<Integer> key = Arrays.asList(s, t);
        if (!words.containsKey(key)) {
            List<List<List<Integer>>> all = new ArrayList<>();
            for (int e = 0; s == 0 && e < recipe.degrees.size(); e++) {
                if (recipe.degrees.get(e) == t) {
                    all.add(List.of(List.of(e)));
                }
            }
            for (int n = 1; s > 0 && n <= t; n++) {
                for (List<List<Integer>> rest : wordsOf(s - 1, t - n)) {
                    for (List<Integer> row : Model.ModelWords.allRows(n)) {
                        List<List<Integer>> word = new ArrayList<>();
                        word.add(row);
                        word.addAll(rest);
                        all.add(word);
                    }
                }
            }
            words.put(key, all);
        }
        return words.get(key);
    }

    private int rank(int s, int t) {
        Map<List<List<Integer>>, Integer> places = new HashMap<>();
        for (List<List<Integer>> word : wordsOf(s - 1, t)) {
            places.put(word, places.size());
        }
        List<BigInteger> table = new ArrayList<>();
        for (List<List<Integer>> word : wordsOf(s, t)) {
            BigInteger row = BigInteger.ZERO;
            for (int k = 0; k + 1 < s; k++) {
                for (List<Integer> term : Model.ModelWords.product(word.get(k), word.get(k + 1))) {
                    row = row.flipBit(places.get(joined(word, k, term)));
                }
            }
            int made = act(word.get(s - 1), word.get(s).get(0));
            for (int e = 0; e < recipe.degrees.size(); e++) {
                if ((made >> e & 1) == 1) {
                    row = row.flipBit(places.get(joined(word, s - 1, List.of(e))));
                }
            }
            table.add(row);
        }
        return new ModelTower.Echelon().addAll(table);
    }

    private static List<List<Integer>> joined(List<List<Integer>> word, int k, List<Integer> term) {
        List<List<Integer>> next = new ArrayList<>(word.subList(0, k));
        next.add(term);
        next.addAll(word.subList(k + 2, word.size()));
        return next;
    }

    private int act(List<Integer> row, int element) {
        int result = 0;
        TreeSet<List<Integer>> chains = Model.ModelWords.chainsOfRow(row);
        for (List<Integer> chain : chains) {
            int made = 1 << element;
            for (int k = chain.size() - 1; k >= 0; k--) {
                int next = 0;
                for (int e = 0; e < recipe.degrees.size(); e++) {
                    if ((made >> e & 1) == 1 && chain.get(k) <= 12) {
                        next ^= recipe.acts.get(e)[chain.get(k)];
                    }
                }
                made = next;
            }
            result ^= made;
        }
        return result;
    }
}
