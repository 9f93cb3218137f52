/** Promises 1 to 6: a new object, square, clear, sum, term, many. */
public final class WordsTest {
    private static final int BAD = -1, FULL = -3, NONE = -9;

    public static void main(String[] args) {
        newObject();
        squareTells();
        squareRefuses();
        clearTells();
        sumOfEmptyChain();
        sumsByTheRule();
        zerosDoNothing();
        chainsInOrder();
        rowsInOrder();
        wrongWords();
        manyTells();
        refusalsChangeNothing();
        Check.finish("WordsTest");
    }

    private static SquareTower chain(int... numbers) {
        SquareTower x = new SquareTower();
        for (int i : numbers) {
            x.square(i);
        }
        return x;
    }

    private static void newObject() {
        SquareTower x = new SquareTower();
        Check.due("new count(0)", x.count(0), 0);
        Check.due("new count(1)", x.count(1), 0);
        Check.due("new count(2)", x.count(2), 0);
        Check.due("new count(3)", x.count(3), 0);
        Check.due("new clear()", x.clear(), 0);
        Check.due("new empty()", x.empty(), 0);
        Check.due("new does(0)", x.does(0), BAD);
        Check.due("new about(0, 0)", x.about(0, 0), BAD);
        Check.due("new fault(0)", x.fault(0), NONE);
    }

    private static void squareTells() {
        SquareTower x = new SquareTower();
        int[] numbers = {0, 4, 2, 1, 7, 0};
        for (int k = 0; k < numbers.length; k++) {
            Check.due("square(" + numbers[k] + ")", x.square(numbers[k]), k + 1);
        }
        Check.due("degree", x.count(1), 14);
        Check.due("numbers", x.count(0), 6);
        Check.due("square(14) alone", new SquareTower().square(14), 1);
    }

    private static void squareRefuses() {
        SquareTower x = new SquareTower();
        Check.due("square(-1)", x.square(-1), BAD);
        Check.due("square(15)", x.square(15), BAD);
        Check.due("square(least)", x.square(Integer.MIN_VALUE), BAD);
        Check.due("square(greatest)", x.square(Integer.MAX_VALUE), BAD);
        x.square(8);
        Check.due("8, square(7)", x.square(7), BAD);
        Check.due("8, square(6)", x.square(6), 2);
        Check.due("14, square(1)", x.square(1), BAD);
        Check.due("14, square(0)", x.square(0), 3);
        SquareTower y = chain(2, 2, 2, 2, 2, 2);
        Check.due("six numbers, square(3): BAD is ahead of FULL", y.square(3), BAD);
        Check.due("six numbers, square(2)", y.square(2), FULL);
        Check.due("six numbers, square(0)", y.square(0), FULL);
        Check.due("six numbers, square(15)", y.square(15), BAD);
        Check.due("six numbers stay", y.count(0), 6);
        Check.due("their degree stays", y.count(1), 12);
    }

    private static void clearTells() {
        SquareTower x = chain(3, 0, 1);
        Check.due("clear() of three", x.clear(), 3);
        Check.due("clear() again", x.clear(), 0);
        Check.due("degree after clear", x.count(1), 0);
        Check.due("sum(0) after clear", x.sum(0), 1);
        Check.due("square(14) after clear", x.square(14), 1);
    }

    private static void sumOfEmptyChain() {
        SquareTower x = new SquareTower();
        Check.due("empty sum(0)", x.sum(0), 1);
        Check.due("empty sum(1)", x.sum(1), 1);
        Check.due("empty term(0, 0, 0)", x.term(0, 0, 0), NONE);
        Check.due("empty term(0, 0, 99)", x.term(0, 0, 99), NONE);
        for (int j = 0; j < 4; j++) {
            Check.due("empty term(1, 0, " + j + ")", x.term(1, 0, j), 0);
        }
    }

    private static void allowed(int[] chain, int[]... due) {
        SquareTower x = chain(chain);
        String name = java.util.Arrays.toString(chain);
        Check.due(name + " sum(0)", x.sum(0), due.length);
        for (int i = 0; i < due.length; i++) {
            for (int j = 0; j < due[i].length; j++) {
                Check.due(name + " term(0, " + i + ", " + j + ")", x.term(0, i, j), due[i][j]);
            }
            Check.due(name + " term behind the last", x.term(0, i, due[i].length), NONE);
        }
        Check.due(name + " no such chain", x.term(0, due.length, 0), BAD);
    }

    private static void rows(int[] chain, int[]... due) {
        SquareTower x = chain(chain);
        String name = java.util.Arrays.toString(chain);
        Check.due(name + " sum(1)", x.sum(1), due.length);
        for (int i = 0; i < due.length; i++) {
            for (int j = 0; j < 4; j++) {
                int want = j < due[i].length ? due[i][j] : 0;
                Check.due(name + " term(1, " + i + ", " + j + ")", x.term(1, i, j), want);
            }
        }
        Check.due(name + " no such row", x.term(1, due.length, 0), BAD);
    }

    private static int[] of(int... numbers) {
        return numbers;
    }

    private static void sumsByTheRule() {
        allowed(of(1, 1));
        allowed(of(2, 2), of(3, 1));
        allowed(of(1, 2), of(3));
        allowed(of(2, 3), of(4, 1), of(5));
        allowed(of(3, 2));
        allowed(of(2, 4), of(5, 1), of(6));
        allowed(of(4, 4), of(6, 2), of(7, 1));
        allowed(of(6, 6), of(9, 3), of(10, 2), of(11, 1));
        allowed(of(7, 7), of(11, 3), of(13, 1));
        allowed(of(4, 2, 1), of(4, 2, 1));
        allowed(of(8, 4, 2), of(8, 4, 2));
        allowed(of(14), of(14));
        allowed(of(2, 1, 2), of(4, 1), of(5));
        allowed(of(1, 2, 1), of(3, 1));
        allowed(of(1, 1, 1, 1, 1, 1));
    }

    private static void zerosDoNothing() {
        allowed(of(0, 0, 0, 0, 0, 0), of());
        allowed(of(0, 2, 0, 2, 0), of(3, 1));
        rows(of(0, 2, 0, 1), of(0, 1), of(3, 0));
        rows(of(0), of(0));
    }

    private static void chainsInOrder() {
        for (int a = 0; a <= 14; a++) {
            for (int b = 0; a + b <= 14; b++) {
                SquareTower x = chain(a, b);
                for (int i = 0; i + 1 < x.sum(0); i++) {
                    Check.holds("chains of " + a + " " + b + " in order", isBefore(x, 0, i));
                }
                for (int i = 0; i + 1 < x.sum(1); i++) {
                    Check.holds("rows of " + a + " " + b + " in order", isBefore(x, 1, i));
                }
            }
        }
    }

    private static boolean isBefore(SquareTower x, int what, int i) {
        for (int j = 0; j < 4; j++) {
            int one = x.term(what, i, j);
            int other = x.term(what, i + 1, j);
            if (one != other) {
                return one < other;
            }
        }
        return false;
    }

    private static void rowsInOrder() {
        rows(of(1, 1));
        rows(of(2, 2), of(1, 1));
        rows(of(3, 1), of(1, 1));
        rows(of(2, 1), of(0, 1), of(3));
        rows(of(4, 2), of(0, 2), of(3, 1), of(6));
        rows(of(4, 2, 1), of(0, 0, 1), of(1, 2), of(4, 1), of(7));
        rows(of(6, 6), of(3, 3), of(6, 2));
        rows(of(14), of(14));
        rows(of(8, 4, 2), of(0, 0, 2), of(1, 2, 1), of(2, 4), of(4, 1, 1), of(5, 3), of(7, 0, 1), of(8, 2), of(11, 1),
                of(14));
    }

    private static void wrongWords() {
        SquareTower x = chain(4, 2);
        int[] wrong = {-1, 2, 3, Integer.MIN_VALUE, Integer.MAX_VALUE};
        for (int what : wrong) {
            Check.due("sum(" + what + ")", x.sum(what), BAD);
            Check.due("term(" + what + ", 0, 0)", x.term(what, 0, 0), BAD);
        }
        for (int what = 0; what < 2; what++) {
            Check.due("term, i -1", x.term(what, -1, 0), BAD);
            Check.due("term, i 3", x.term(what, 3, 0), BAD);
            Check.due("term, i least", x.term(what, Integer.MIN_VALUE, 0), BAD);
            Check.due("term, i greatest", x.term(what, Integer.MAX_VALUE, 0), BAD);
            Check.due("term, j -1", x.term(what, 0, -1), BAD);
            Check.due("term, j least", x.term(what, 0, Integer.MIN_VALUE), BAD);
        }
        Check.due("row, j 3", x.term(1, 0, 3), 0);
        Check.due("row, j 4", x.term(1, 0, 4), BAD);
        Check.due("row, j greatest", x.term(1, 0, Integer.MAX_VALUE), BAD);
        Check.due("chain, j 4", x.term(0, 0, 4), NONE);
        Check.due("chain, j greatest", x.term(0, 0, Integer.MAX_VALUE), NONE);
        SquareTower none = chain(1, 1);
        Check.due("nothing, term(0, 0, 0)", none.term(0, 0, 0), BAD);
        Check.due("nothing, term(1, 0, 0)", none.term(1, 0, 0), BAD);
    }

    private static void manyTells() {
        int[] due = {1, 1, 1, 2, 2, 2, 3, 4, 4, 5, 6, 6, 7, 8, 9};
        SquareTower x = chain(5, 4);
        for (int n = 0; n < due.length; n++) {
            Check.due("many(" + n + ")", x.many(n), due[n]);
        }
        Check.due("many(-1)", x.many(-1), BAD);
        Check.due("many(15)", x.many(15), BAD);
        Check.due("many(least)", x.many(Integer.MIN_VALUE), BAD);
        Check.due("many(greatest)", x.many(Integer.MAX_VALUE), BAD);
    }

    private static void refusalsChangeNothing() {
        SquareTower x = chain(4, 2);
        x.square(15);
        x.square(9);
        x.sum(7);
        x.term(0, -1, 0);
        x.many(77);
        Check.due("numbers after refusals", x.count(0), 2);
        Check.due("degree after refusals", x.count(1), 6);
        Check.due("sum(1) after refusals", x.sum(1), 3);
    }
}
