import java.util.ArrayList;
import java.util.List;

/** SOUND SPACES beyond the named ones: pieces of lines and pairs moved about, sums and products of such, mixed. */
final class Recipe {
    final List<Integer> degrees = new ArrayList<>();
    /** What S(i), i 0 .. 12, makes of each ELEMENT. */
    final List<int[]> acts = new ArrayList<>();

    private int add(int degree) {
        degrees.add(degree);
        acts.add(new int[13]);
        return degrees.size() - 1;
    }

    /** S(step i) of number k is number k + i, if C(first + k, i) is odd; the first may be below 0. */
    static Recipe piece(int first, int length, int step, int degree) {
        Recipe made = new Recipe();
        for (int k = 0; k < length; k++) {
            made.add(degree + step * k);
        }
        for (int k = 0; k < length; k++) {
            for (int i = 1; k + i < length && step * i <= 12; i++) {
                // C(n, i) is the same for n that are 64 apart, for i this small.
                if (Model.ModelWords.choicesOdd(first + k + 64, i)) {
                    made.acts.get(k)[step * i] = 1 << (k + i);
                }
            }
        }
        return made;
    }

    Recipe plus(Recipe other) {
        Recipe made = new Recipe();
        for (int e = 0; e < degrees.size(); e++) {
            System.arraycopy(acts.get(e), 0, made.acts.get(made.add(degrees.get(e))), 0, 13);
        }
        for (int e = 0; e < other.degrees.size(); e++) {
            int[] row = made.acts.get(made.add(other.degrees.get(e)));
            for (int i = 1; i <= 12; i++) {
                row[i] = other.acts.get(e)[i] << degrees.size();
            }
        }
        return made;
    }

    /** S(n) of a product is the SUM of the products of S(i) and S(n - i). */
    Recipe times(Recipe other) {
        Recipe made = new Recipe();
        int width = other.degrees.size();
        for (int e = 0; e < degrees.size(); e++) {
            for (int f = 0; f < width; f++) {
                int[] row = made.acts.get(made.add(degrees.get(e) + other.degrees.get(f)));
                for (int n = 1; n <= 12; n++) {
                    for (int i = 0; i <= n; i++) {
                        int left = i == 0 ? 1 << e : acts.get(e)[i];
                        int right = i == n ? 1 << f : other.acts.get(f)[n - i];
                        for (int g = 0; g < degrees.size(); g++) {
                            if ((left >> g & 1) == 1) {
                                row[n] ^= right << (g * width);
                            }
                        }
                    }
                }
            }
        }
        return made;
    }

    /** ELEMENT e is told as the SUM of e and f from now on (both of one degree). */
    private void mix(int e, int f) {
        for (int i = 1; i <= 12; i++) {
            acts.get(e)[i] ^= acts.get(f)[i];
            for (int[] row : acts) {
                if ((row[i] >> e & 1) == 1) {
                    row[i] ^= 1 << f;
                }
            }
        }
    }

    private void swap(int e, int f) {
        int degree = degrees.get(e);
        degrees.set(e, degrees.get(f));
        degrees.set(f, degree);
        int[] acted = acts.get(e);
        acts.set(e, acts.get(f));
        acts.set(f, acted);
        for (int[] row : acts) {
            for (int i = 1; i <= 12; i++) {
                if ((row[i] >> e & 1) != (row[i] >> f & 1)) {
                    row[i] ^= 1 << e ^ 1 << f;
                }
            }
        }
    }

    /** Leaves out what does not fit: ELEMENTS above degree 12, and behind the twelfth by degrees. */
    private Recipe fitting() {
        List<Integer> stay = new ArrayList<>();
        for (int d = 0; d <= 12; d++) {
            for (int e = 0; e < degrees.size(); e++) {
                if (degrees.get(e) == d && stay.size() < 12) {
                    stay.add(e);
                }
            }
        }
        Recipe made = new Recipe();
        for (int e : stay) {
            int[] row = made.acts.get(made.add(degrees.get(e)));
            for (int i = 1; i <= 12; i++) {
                for (int k = 0; k < stay.size(); k++) {
                    row[i] |= (acts.get(e)[i] >> stay.get(k) & 1) << k;
                }
            }
        }
        return made;
    }

    static Recipe chosen(Dice dice) {
        Recipe made = randomPiece(dice, 6);
        int pieces = dice.below(4);
        for (int k = 0; k < pieces; k++) {
            if (dice.once(3) && made.degrees.size() <= 6) {
                Recipe product = made.times(randomPiece(dice, 3)).fitting();
                made = product.degrees.isEmpty() ? made : product;
            } else {
                made = made.plus(randomPiece(dice, 6)).fitting();
            }
        }
        made = made.fitting();
        int size = made.degrees.size();
        for (int k = 0; k < 30; k++) {
            int e = dice.below(size);
            int f = dice.below(size);
            if (e != f && made.degrees.get(e).equals(made.degrees.get(f))) {
                made.mix(e, f);
            }
            if (e != f && dice.once(3)) {
                made.swap(e, f);
            }
        }
        return made;
    }

    private static Recipe randomPiece(Dice dice, int most) {
        int step = new int[] {1, 1, 2, 4}[dice.below(4)];
        int degree = dice.once(2) ? 0 : dice.below(9);
        return piece(dice.from(-9, 20), dice.from(1, most), step, degree).fitting();
    }

    void tell(Both both) {
        both.empty();
        for (int degree : degrees) {
            both.element(degree);
        }
        for (int e = 0; e < degrees.size(); e++) {
            for (int i = 1; i <= 12; i++) {
                if (acts.get(e)[i] != 0) {
                    both.act(i, e, acts.get(e)[i]);
                }
            }
        }
    }
}
