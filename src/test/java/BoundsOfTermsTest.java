import java.util.ArrayList;
import java.util.List;

/** What stands ahead of the promises ("What it is", "Terms"), sentence by sentence, on both sides of each boundary. */
public final class BoundsOfTermsTest {
    private static final int BAD = SquareTower.BAD, STATE = SquareTower.STATE, FULL = SquareTower.FULL,
            NONE = SquareTower.NONE;
    private static final int POINT = 0, LINES = 1, PAIRS = 2;
    private static final int CALLS = 512;
    private static final String THE_PRODUCT = "THE PRODUCT of r and s: over all tables x(i, j), i, j 0 .. 4 "
            + "(x(0, 0) left out) of numbers 0 and above with r(i) = the sum over j of 2^j x(i, j), s(j) = the sum over "
            + "i of x(i, j) (i, j from 1 on): the ROW whose n-th number is the sum of x(i, j) with i + j = n, if in each "
            + "of these sums no two numbers have a bit in common (else it is not there).";

    public static void main(String[] args) {
        Sentences.run(BoundsOfTermsTest.class);
    }

    // ---- what it is: 512 calls

    /** One call of each method, on an object that has some of everything. */
    private static final States.Call[] EACH = {
        x -> x.square(8), x -> x.clear(), x -> x.sum(1), x -> x.term(0, 0, 1), x -> x.many(14), x -> x.empty(),
        x -> x.element(12), x -> x.act(1, 0, 16), x -> x.space(LINES, 1, 12), x -> x.does(0), x -> x.about(0, 1),
        x -> x.fault(0), x -> x.live(1, 2), x -> x.joins(0, 0, 0), x -> x.balance(14), x -> x.differ(3, 0, 2, 1),
        x -> x.page(3, 0, 1), x -> x.count(3)};

    /** Call number k of those that change nothing, many of them refused. */
    private static int idle(SquareTower x, int k) {
        switch (k % 12) {
            case 0: return x.square(9);
            case 1: return x.sum(k % 3);
            case 2: return x.term(k % 2, k % 4, k % 5);
            case 3: return x.element(13);
            case 4: return x.act(1, 0, 1);
            case 5: return x.live(k % 6, 14);
            case 6: return x.joins(k % 4, k % 5, 6);
            case 7: return x.balance(k % 16);
            case 8: return x.differ(2, 0, 1, 1);
            case 9: return x.page(k % 7, 0, 1);
            case 10: return x.space(PAIRS, 0, 7);
            default: return x.does(k % 7);
        }
    }

    @Sentence(promise = 1, under = Sentences.WHAT_IT_IS,
            says = "An object is used for at most 512 calls after it has been made")
    static void p01_the512thCallOfEachMethod() {
        int made = 2 + 6 + 1 + 1;
        for (int k = 0; k < EACH.length; k++) {
            SquareTower x = States.made(States::some);
            for (int call = made + 1; call < CALLS; call++) {
                idle(x, call);
            }
            Check.due("method " + k + ", the 512th call", EACH[k].ask(x), EACH[k].ask(States.made(States::some)));
        }
    }

    @Sentence(promise = 1, under = Sentences.WHAT_IT_IS,
            says = "An object is used for at most 512 calls after it has been made")
    static void p01_512CallsThatChange() {
        SquareTower x = new SquareTower();
        Check.due("square(1)", x.square(1), 1);
        Check.due("clear()", x.clear(), 1);
        for (int call = 2; call + 6 <= CALLS; call += 6) {
            int k = call / 6;
            int name = k % 3;
            int m = 1 + k % 4;
            int n = m + k % 3;
            SquareTower fresh = new SquareTower();
            Check.due("space", x.space(name, m, n), fresh.space(name, m, n));
            Check.due("element", x.element(k % 3), fresh.element(k % 3));
            Check.due("live", x.live(k % 6, 14), fresh.live(k % 6, 14));
            Check.due("balance", x.balance(k % 15), fresh.balance(k % 15));
            Check.due("square", x.square(k % 15), 1);
            Check.due("clear", x.clear(), 1);
        }
    }

    @Sentence(promise = 1, under = Sentences.WHAT_IT_IS, says = "what later calls answer is free.")
    static void p01_laterCallsAreFree() {
        SquareTower x = States.made(States::some);
        long sum = 0;
        for (int call = 11; call < 4 * CALLS; call++) {
            sum += idle(x, call);
            sum += call % 40 == 0 ? EACH[call / 40 % EACH.length].ask(x) : 0;
        }
        Check.holds("each call ends with some answer: " + sum, true);
    }

    // ---- squares

    private static int[][] choices() {
        int[][] row = new int[16][16];
        for (int n = 0; n < 16; n++) {
            row[n][0] = 1;
            for (int k = 1; k <= n; k++) {
                row[n][k] = row[n - 1][k - 1] + (k < n ? row[n - 1][k] : 0);
            }
        }
        return row;
    }

    private static void sumIs(SquareTower x, int what, String name, List<int[]> due) {
        Check.due(name + ", " + Numbers.call("sum", what), x.sum(what), due.size());
        for (int i = 0; i < due.size(); i++) {
            for (int j = 0; j < due.get(i).length; j++) {
                Check.due(name + ", " + Numbers.call("term", what, i, j), x.term(what, i, j), due.get(i)[j]);
            }
        }
    }

    @Sentence(promise = 11, under = Sentences.TERMS, says = "SUMS are by twos: what is there twice is not there.")
    static void p11_onceTwiceAndThreeTimes() {
        for (int n : Numbers.from(0, 4)) {
            SquareTower x = States.ofElements(0, 1, 1, 1, 1, 3);
            x.act(1, 0, 2 + 4 + 8 + 16);
            for (int e = 1; e <= n; e++) {
                x.act(2, e, 32);
            }
            States.chain(x, 2, 1);
            Check.due(n + " times", x.does(0), n % 2 == 1 ? 32 : 0);
        }
    }

    @Sentence(promise = 11, under = Sentences.TERMS, says = "A CHAIN S(a) S(b) .. means the last one first.")
    static void p11_theLastOneFirst() {
        SquareTower x = States.ofElements(0, 1, 3, 2);
        x.act(1, 0, 2);
        x.act(2, 1, 4);
        x.act(2, 0, 8);
        States.chain(x, 2, 1);
        Check.due("S(2) S(1)", x.does(0), 4);
        x.clear();
        States.chain(x, 1, 2);
        Check.due("S(1) S(2)", x.does(0), 0);
        x.act(1, 3, 4);
        Check.due("S(1) S(2) by another way", x.does(0), 4);
    }

    @Sentence(promise = 4, under = Sentences.TERMS, says = "THE RULE: for 0 < a < 2 b: S(a) S(b)")
    static void p04_belowTwice_b() {
        for (int b = 1; 3 * b <= 14; b++) {
            SquareTower at = States.ofChain(2 * b, b);
            sumIs(at, 0, "a is 2 b", List.of(new int[] {2 * b, b, NONE}));
            sumIs(States.ofChain(2 * b - 1, b), 0, "a is 2 b - 1", List.of());
            sumIs(States.ofChain(0, b), 0, "a is 0", List.of(new int[] {b, NONE}));
            sumIs(States.ofChain(b, 0), 0, "b is 0", List.of(new int[] {b, NONE}));
        }
        sumIs(States.ofChain(1, 1), 0, "a is 1, b is 1", List.of());
        sumIs(States.ofChain(1, 2), 0, "a is 1, b is 2", List.of(new int[] {3, NONE}));
    }

    @Sentence(promise = 5, under = Sentences.TERMS,
            says = "is the sum over j = 0 .. a / 2 (rounded down) of S(a + b - j) S(j)")
    static void p05_j_from0ToHalf_a() {
        sumIs(States.ofChain(2, 4), 0, "j 0 and 2 / 2", List.of(new int[] {5, 1, NONE}, new int[] {6, NONE}));
        sumIs(States.ofChain(3, 3), 0, "j 3 / 2, rounded down", List.of(new int[] {5, 1, NONE}));
        sumIs(States.ofChain(4, 4), 0, "j 1 and 4 / 2", List.of(new int[] {6, 2, NONE}, new int[] {7, 1, NONE}));
        sumIs(States.ofChain(1, 4), 0, "j 0 alone", List.of(new int[] {5, NONE}));
    }

    @Sentence(promise = 5, under = Sentences.TERMS, says = "for those j with C(b - 1 - j, a - 2 j) odd (C(n, k): choices "
            + "of k of n; k n at most).")
    static void p05_k_atMost_n() {
        sumIs(States.ofChain(2, 3), 0, "C(2, 2)", List.of(new int[] {4, 1, NONE}, new int[] {5, NONE}));
        sumIs(States.ofChain(2, 2), 0, "C(1, 2)", List.of(new int[] {3, 1, NONE}));
        int[][] choices = choices();
        for (int a = 1; a <= 13; a++) {
            for (int b = a / 2 + 1; a + b <= 14; b++) {
                List<int[]> due = new ArrayList<>();
                for (int j = a / 2; j >= 0; j--) {
                    if (choices[b - 1 - j][a - 2 * j] % 2 == 1) {
                        due.add(j == 0 ? new int[] {a + b, NONE, NONE} : new int[] {a + b - j, j, NONE});
                    }
                }
                sumIs(States.ofChain(a, b), 0, "S(" + a + ") S(" + b + ")", due);
            }
        }
    }

    @Sentence(promise = 4, under = Sentences.TERMS, says = "ALLOWED is a CHAIN without S(0) in which each number is at "
            + "least twice the next one (the empty CHAIN, too).")
    static void p04_atLeastTwice() {
        sumIs(new SquareTower(), 0, "the empty CHAIN", List.of(new int[] {NONE, NONE}));
        sumIs(States.ofChain(0), 0, "S(0)", List.of(new int[] {NONE, NONE}));
        sumIs(States.ofChain(0, 9, 0, 4, 0), 0, "zeros among", List.of(new int[] {9, 4, NONE, NONE}));
        sumIs(States.ofChain(0, 10, 0, 4, 0, 0), 0, "zeros among, degree 14", List.of(new int[] {10, 4, NONE, NONE}));
        sumIs(States.ofChain(0, 14), 0, "S(0) ahead of S(14)", List.of(new int[] {14, NONE, NONE}));
        sumIs(States.ofChain(14, 0), 0, "S(0) behind S(14)", List.of(new int[] {14, NONE, NONE}));
        for (int a = 1; a <= 14; a++) {
            for (int b = 1; a + b <= 14; b++) {
                for (int c = 1; a + b + c <= 14; c++) {
                    SquareTower x = States.ofChain(a, b, c);
                    boolean itself = x.sum(0) == 1 && x.term(0, 0, 0) == a && x.term(0, 0, 1) == b
                            && x.term(0, 0, 2) == c;
                    Check.due(Numbers.call("stays", a, b, c), itself ? 1 : 0, a >= 2 * b && b >= 2 * c ? 1 : 0);
                }
            }
        }
    }

    @Sentence(promise = 4, under = Sentences.TERMS, says = "Each CHAIN is one SUM of ALLOWED ones of its degree.")
    static void p04_ofItsDegree() {
        for (int a = 0; a <= 14; a++) {
            for (int b = 0; a + b <= 14; b++) {
                SquareTower x = States.ofChain(a, b);
                for (int c = 0; a + b + c <= 14; c++) {
                    SquareTower three = States.ofChain(a, b, c);
                    allowedOnesOfDegree(three, a + b + c);
                }
                allowedOnesOfDegree(x, a + b);
            }
        }
    }

    private static void allowedOnesOfDegree(SquareTower x, int degree) {
        for (int i = 0; i < x.sum(0); i++) {
            int left = degree;
            int last = 2 * degree;
            for (int j = 0; x.term(0, i, j) != NONE; j++) {
                Check.holds("at least twice the next one", last >= 2 * x.term(0, i, j) && x.term(0, i, j) > 0);
                last = x.term(0, i, j);
                left -= last;
            }
            Check.due("its degree", left, 0);
        }
        for (int i = 0; i < x.sum(1); i++) {
            Check.due("its degree, as ROWS",
                    x.term(1, i, 0) + 3 * x.term(1, i, 1) + 7 * x.term(1, i, 2) + 15 * x.term(1, i, 3), degree);
        }
    }

    @Sentence(promise = 5, under = Sentences.TERMS, says = "These are in order as rows of numbers from the first on (the "
            + "lesser number first; a CHAIN of fewer numbers comes ahead of one that goes on).")
    static void p05_theLesserNumberFirst() {
        sumIs(States.ofChain(6, 6), 0, "by the first number",
                List.of(new int[] {9, 3, NONE}, new int[] {10, 2, NONE}, new int[] {11, 1, NONE}));
        sumIs(States.ofChain(2, 4), 0, "two numbers ahead of one", List.of(new int[] {5, 1}, new int[] {6, NONE}));
        int[][] chains = {{6, 8}, {5, 9}, {7, 7}, {4, 6, 4}, {2, 5, 5}, {3, 5, 6}, {3, 3, 3, 3}, {2, 4, 8}, {6, 5, 3}};
        for (int[] chain : chains) {
            SquareTower x = States.ofChain(chain);
            for (int what = 0; what < 2; what++) {
                for (int i = 1; i < x.sum(what); i++) {
                    Check.holds(Numbers.call("in order", chain), isBefore(x, what, i));
                }
            }
        }
    }

    private static boolean isBefore(SquareTower x, int what, int i) {
        int j = 0;
        while (j < 3 && x.term(what, i - 1, j) == x.term(what, i, j)) {
            j++;
        }
        return x.term(what, i - 1, j) < x.term(what, i, j);
    }

    @Sentence(promise = 5, under = Sentences.TERMS, says = "ROWS (r1, r2, r3, r4) of numbers 0 and above, of the degree "
            + "r1 + 3 r2 + 7 r3 + 15 r4, are the other base, in order as rows likewise: S(i) is (i, 0, 0, 0).")
    static void p05_rowsOfOneSquare() {
        for (int i : Numbers.from(0, 14)) {
            sumIs(States.ofChain(i), 1, "S(" + i + ")", List.of(new int[] {i, 0, 0, 0}));
        }
        sumIs(new SquareTower(), 1, "the empty CHAIN", List.of(new int[] {0, 0, 0, 0}));
        sumIs(States.ofChain(2, 1), 1, "S(2) S(1)", List.of(new int[] {0, 1, 0, 0}, new int[] {3, 0, 0, 0}));
        sumIs(States.ofChain(4, 2, 1), 1, "S(4) S(2) S(1)", List.of(new int[] {0, 0, 1, 0}, new int[] {1, 2, 0, 0},
                new int[] {4, 1, 0, 0}, new int[] {7, 0, 0, 0}));
    }

    @Sentence(promise = 5, under = Sentences.TERMS, says = THE_PRODUCT)
    static void p05_noBitInCommon() {
        sumIs(States.ofChain(1, 1), 1, "1 and 1", List.of());
        sumIs(States.ofChain(1, 2), 1, "1 and 2", List.of(new int[] {3, 0, 0, 0}));
        sumIs(States.ofChain(2, 2), 1, "x(1, 1) 1", List.of(new int[] {1, 1, 0, 0}));
        for (int a = 0; a <= 14; a++) {
            for (int b = 0; a + b <= 14; b++) {
                List<int[]> due = new ArrayList<>();
                // Of two single squares x(1, 1) alone is free: it takes 2 of a and 1 of b.
                for (int x = Math.min(a / 2, b); x >= 0; x--) {
                    if ((a - 2 * x & b - x) == 0) {
                        due.add(new int[] {a + b - 3 * x, x, 0, 0});
                    }
                }
                sumIs(States.ofChain(a, b), 1, "S(" + a + ") S(" + b + ")", due);
            }
        }
    }

    /** S(i) times the ROWS (0, 0, 1), (1, 2), (4, 1), (7) of S(4) S(2) S(1), up to the degree 14. */
    @Sentence(promise = 5, under = Sentences.TERMS, says = THE_PRODUCT)
    static void p05_upToThirdNumbers() {
        sumIs(States.ofChain(1, 4, 2, 1), 1, "i 1", List.of(new int[] {1, 0, 1, 0}, new int[] {5, 1, 0, 0}));
        sumIs(States.ofChain(2, 4, 2, 1), 1, "i 2, where (6, 1) is there twice",
                List.of(new int[] {0, 3, 0, 0}, new int[] {2, 0, 1, 0}, new int[] {3, 2, 0, 0}));
        for (int i = 0; i <= 7; i++) {
            List<int[]> due = new ArrayList<>();
            for (List<Integer> row : Model.ModelWords.rows(List.of(i, 4, 2, 1))) {
                due.add(new int[] {row.get(0), row.get(1), row.get(2), row.get(3)});
            }
            sumIs(States.ofChain(i, 4, 2, 1), 1, "i " + i, due);
        }
    }

    // ---- spaces

    @Sentence(promise = 8, under = Sentences.TERMS, says = "A SPACE has ELEMENTS (12 at most) of degrees 0 .. 12.")
    static void p08_12AtMostOfDegrees0To12() {
        SquareTower x = new SquareTower();
        for (int k = 0; k < 12; k++) {
            Check.due("degree -1", x.element(-1), BAD);
            Check.due("degree 13", x.element(13), BAD);
            Check.due("element " + k, x.element(k == 0 ? 0 : 12), k);
        }
        Check.due("a thirteenth of degree 0", x.element(0), FULL);
        Check.due("a thirteenth of degree 12", x.element(12), FULL);
        Check.due("count(2)", x.count(2), 12);
    }

    @Sentence(promise = 9, under = Sentences.TERMS,
            says = "What S(i), i 1 .. 12, makes of each is a SUM of ELEMENTS of the degree that is i more (none at first).")
    static void p09_noneAtFirst() {
        SquareTower x = States.ofElements(0, 1, 1, 12);
        for (int e = 0; e < 4; e++) {
            for (int i = 1; i <= 12; i++) {
                Check.due(Numbers.call("about", e, i), x.about(e, i), 0);
            }
        }
        Check.due("one", x.act(1, 0, 2), 0);
        Check.due("both", x.act(1, 0, 6), 2);
        Check.due("one of i more and one of another degree", x.act(1, 0, 10), BAD);
        Check.due("of 12 more", x.act(12, 0, 8), 0);
        Check.due("an ELEMENT more", x.element(1), 4);
        Check.due("nothing of it at first", x.about(4, 11), 0);
    }

    @Sentence(promise = 13, under = Sentences.TERMS, says = "It is SOUND, if THE RULE holds on each ELEMENT, for all a, b "
            + "(S(i) with i above 12 makes nothing).")
    static void p13_theRuleFor_a_below2b() {
        SquareTower at = States.ofElements(0, 1, 3);
        at.act(1, 0, 2);
        at.act(2, 1, 4);
        Check.due("S(2) S(1), a is 2 b: no fault", at.fault(0), NONE);
        SquareTower below = States.ofElements(0, 1, 2);
        below.act(1, 0, 2);
        below.act(1, 1, 4);
        Check.due("S(1) S(1), a is 2 b - 1: a fault", below.fault(0), 1);
        below.act(1, 1, 0);
        Check.due("none then", below.fault(0), NONE);
        SquareTower each = States.ofElements(3, 0, 6, 1, 7, 2, 8);
        each.act(3, 0, 4);
        Check.due("on the first ELEMENT", each.fault(2), 0);
        each.act(3, 0, 0);
        each.act(6, 5, 64);
        Check.due("on the last but one", each.fault(2), 5);
        Check.due("S(6) is of S(2) S(4)", each.fault(1), 4);
    }

    @Sentence(promise = 11, under = Sentences.TERMS, says = "(S(i) with i above 12 makes nothing)")
    static void p11_above12Nothing() {
        SquareTower x = States.ofElements(0, 12, 0, 11, 1);
        x.act(12, 0, 2);
        x.act(11, 2, 8);
        x.act(11, 4, 2);
        x.act(1, 3, 2);
        x.square(12);
        Check.due("S(12)", x.does(0), 2);
        for (int i = 13; i <= 14; i++) {
            x.clear();
            x.square(i);
            for (int e = 0; e < 5; e++) {
                Check.due("S(" + i + "), " + Numbers.call("does", e), x.does(e), 0);
            }
        }
        x.clear();
        States.chain(x, 1, 11);
        Check.due("S(1) S(11)", x.does(2), 2);
        x.clear();
        States.chain(x, 13, 0);
        Check.due("S(13) S(0)", x.does(0), 0);
        x.clear();
        States.chain(x, 0, 13);
        Check.due("S(0) S(13)", x.does(0), 0);
    }

    @Sentence(promise = 10, under = Sentences.TERMS, says = "SPACES by name: 0 POINT: one ELEMENT of degree n;")
    static void p10_point() {
        SquareTower x = new SquareTower();
        for (int n : new int[] {0, 12}) {
            Check.due(Numbers.call("space", POINT, 5, n), x.space(POINT, 5, n), 1);
            Check.due("about(0, 0)", x.about(0, 0), n);
            Check.due("about(1, 0)", x.about(1, 0), BAD);
        }
    }

    @Sentence(promise = 10, under = Sentences.TERMS, says = "1 LINES: ELEMENTS of degrees m .. n, 0 < m: S(i) of that of "
            + "degree k is that of degree k + i, if that is there and C(k, i) is odd;")
    static void p10_linesIfThatIsThere() {
        int[][] choices = choices();
        for (int m = 1; m <= 12; m++) {
            for (int n = m; n <= 12; n++) {
                SquareTower x = new SquareTower();
                Check.due(Numbers.call("space", LINES, m, n), x.space(LINES, m, n), n - m + 1);
                for (int k = m; k <= n; k++) {
                    Check.due("its degree", x.about(k - m, 0), k);
                    for (int i = 1; i <= 12; i++) {
                        boolean there = k + i <= n && choices[k][i] % 2 == 1;
                        Check.due("S(" + i + ") of degree " + k, x.about(k - m, i), there ? 1 << (k + i - m) : 0);
                    }
                }
            }
        }
    }

    @Sentence(promise = 10, under = Sentences.TERMS, says = "2 PAIRS: ELEMENTS of degrees 2 m, 2 m + 2, .. 2 n: S(2 i) of "
            + "that of degree 2 k likewise, if C(k, i) is odd, S of odd ones nothing.")
    static void p10_pairsIfThatIsThere() {
        int[][] choices = choices();
        for (int m = 0; m <= 6; m++) {
            for (int n = m; n <= 6; n++) {
                SquareTower x = new SquareTower();
                Check.due(Numbers.call("space", PAIRS, m, n), x.space(PAIRS, m, n), n - m + 1);
                for (int k = m; k <= n; k++) {
                    Check.due("its degree", x.about(k - m, 0), 2 * k);
                    for (int i = 1; i <= 6; i++) {
                        boolean there = k + i <= n && choices[k][i] % 2 == 1;
                        Check.due("S(" + 2 * i + ")", x.about(k - m, 2 * i), there ? 1 << (k + i - m) : 0);
                        Check.due("S of an odd one", x.about(k - m, 2 * i - 1), 0);
                    }
                }
            }
        }
    }

    // ---- towers

    @Sentence(promise = 14, under = Sentences.TERMS, says = "THE TOWER over a SOUND SPACE is the least row of free spaces "
            + "F(0), F(1), .. over the SQUARES, each going to the one ahead, F(0) onto the SPACE, such that what goes to "
            + "nothing is what comes from the next one.")
    static void p14_leastAndOnto() {
        SquareTower x = States.ofElements(0, 1, 1, 2);
        int[] onto = {1, 2, 1};
        for (int t = 0; t < 3; t++) {
            Check.due("nothing reached, " + Numbers.call("live", 0, t), x.live(0, t), onto[t]);
        }
        Check.due("S(1) of ELEMENT 0 goes to nothing", x.live(1, 1), 1);
        x.act(1, 0, 2);
        Check.due("ELEMENT 1 reached", x.live(0, 1), 1);
        Check.due("S(1) of ELEMENT 0 goes to it", x.live(1, 1), 0);
        x.act(1, 2, 8);
        Check.due("ELEMENT 3 reached", x.live(0, 2), 0);
        x.act(1, 0, 6);
        Check.due("a SUM that is not sound", x.live(0, 0), STATE);
        x.act(1, 2, 0);
        Check.due("a SUM reached: one of two is left", x.live(0, 1), 1);
        Check.due("ELEMENT 3 not reached", x.live(0, 2), 1);
    }

    @Sentence(promise = 14, under = Sentences.TERMS, says = "LIVE (s, t), s 0 .. 5, t 0 .. 14: how many of F(s)'s "
            + "generators have the degree t. (It is one number, however the TOWER is made.)")
    static void p14_oneNumberHoweverMade() {
        SquareTower lines = States.made(x -> x.space(LINES, 1, 6));
        SquareTower turned = States.ofElements(6, 5, 4, 3, 2, 1);
        for (int k = 1; k <= 6; k++) {
            for (int i = 1; k + i <= 6; i++) {
                turned.act(i, 6 - k, lines.about(k - 1, i) == 0 ? 0 : 1 << (6 - k - i));
            }
        }
        SquareTower downwards = States.made(x -> x.space(LINES, 1, 6));
        for (int s = 5; s >= 0; s--) {
            for (int t = 14; t >= 0; t--) {
                int due = lines.live(s, 14 - t);
                Check.due("turned, " + Numbers.call("live", s, 14 - t), turned.live(s, 14 - t), due);
                Check.due("downwards, " + Numbers.call("live", s, t), downwards.live(s, t),
                        States.made(x -> x.space(LINES, 1, 6)).live(s, t));
            }
        }
    }

    @Sentence(promise = 15, under = Sentences.TERMS, says = "with g(1), .. the generators of F(s) of degree t, f(1), .. "
            + "those of F(s + 1) of degree t + 2^i (14 at most): the table that tells of each f whether what it goes to "
            + "has S(2^i) g, for each g (as a SUM of ALLOWED CHAINS of generators)")
    static void p15_rankOfTheTable() {
        for (int i = 0; i <= 3; i++) {
            int degree = 1 << i;
            SquareTower x = States.ofElements(0, 0, 0, degree, degree, degree);
            Check.due("three f, each of one g", x.joins(i, 0, 0), 3);
            x.act(degree, 0, 8);
            Check.due("two f", x.joins(i, 0, 0), 2);
            x.act(degree, 1, 8);
            Check.due("two f, one of them of two g", x.joins(i, 0, 0), 2);
            x.act(degree, 2, 8);
            Check.due("two f of two g each", x.joins(i, 0, 0), 2);
            x.act(degree, 2, 16);
            Check.due("one f of two g", x.joins(i, 0, 0), 1);
            x.act(degree, 1, 24);
            Check.due("one f of three g", x.joins(i, 0, 0), 1);
            x.act(degree, 1, 32);
            Check.due("no f", x.joins(i, 0, 0), 0);
            Check.due("SOUND", x.fault(0), NONE);
        }
    }

    /** Over these ELEMENTS two f, of which each has S(2) g together with something that the other one has not. */
    @Sentence(promise = 15, under = Sentences.TERMS, says = "its RANK by twos")
    static void p15_twoOfWhichOneCounts() {
        SquareTower x = States.ofElements(0, 1, 1, 2, 2, 2, 3, 3, 3);
        x.act(1, 0, 1 << 1);
        x.act(2, 0, 1 << 3);
        x.act(3, 0, 1 << 6);
        x.act(1, 3, 1 << 6);
        x.act(2, 1, 1 << 7);
        x.act(2, 2, 1 << 8);
        x.act(1, 4, 1 << 6 | 1 << 8);
        x.act(1, 5, 1 << 7 | 1 << 8);
        Check.due("SOUND", x.fault(0), NONE);
        Check.due("one g, live(0, 1)", x.live(0, 1), 1);
        Check.due("two f, live(1, 3)", x.live(1, 3), 2);
        Check.due("joins(1, 0, 1)", x.joins(1, 0, 1), 1);
        x.act(1, 4, 1 << 6);
        x.act(1, 5, 1 << 7);
        Check.due("neither of two has it, live(1, 3)", x.live(1, 3), 2);
        Check.due("neither of two has it, joins(1, 0, 1)", x.joins(1, 0, 1), 0);
    }
}
