/** The class and the model, asked the same; each answer must be the same. */
final class Both {
    private final SquareTower real = new SquareTower();
    private final Model model = new Model();
    private final StringBuilder run = new StringBuilder();
    private final String name;

    Both(String name) {
        this.name = name;
    }

    private int due(String call, int got, int want) {
        run.append(call).append("; ");
        Check.due(got == want ? call : name + ": " + run, got, want);
        return want;
    }

    int square(int i) {
        return due("square(" + i + ")", real.square(i), model.square(i));
    }

    int clear() {
        return due("clear()", real.clear(), model.clear());
    }

    int sum(int what) {
        return due("sum(" + what + ")", real.sum(what), model.sum(what));
    }

    int term(int what, int i, int j) {
        return due("term(" + what + ", " + i + ", " + j + ")", real.term(what, i, j), model.term(what, i, j));
    }

    int many(int degree) {
        return due("many(" + degree + ")", real.many(degree), model.many(degree));
    }

    int empty() {
        return due("empty()", real.empty(), model.empty());
    }

    int element(int degree) {
        return due("element(" + degree + ")", real.element(degree), model.element(degree));
    }

    int act(int i, int element, int bits) {
        return due("act(" + i + ", " + element + ", " + bits + ")", real.act(i, element, bits),
                model.act(i, element, bits));
    }

    int space(int name, int m, int n) {
        return due("space(" + name + ", " + m + ", " + n + ")", real.space(name, m, n), model.space(name, m, n));
    }

    int does(int element) {
        return due("does(" + element + ")", real.does(element), model.does(element));
    }

    int about(int element, int what) {
        return due("about(" + element + ", " + what + ")", real.about(element, what), model.about(element, what));
    }

    int fault(int what) {
        return due("fault(" + what + ")", real.fault(what), model.fault(what));
    }

    int live(int s, int t) {
        return due("live(" + s + ", " + t + ")", real.live(s, t), model.live(s, t));
    }

    int joins(int i, int s, int t) {
        return due("joins(" + i + ", " + s + ", " + t + ")", real.joins(i, s, t), model.joins(i, s, t));
    }

    int balance(int t) {
        return due("balance(" + t + ")", real.balance(t), model.balance(t));
    }

    int differ(int r, int s, int t, int rank) {
        return due("differ(" + r + ", " + s + ", " + t + ", " + rank + ")", real.differ(r, s, t, rank),
                model.differ(r, s, t, rank));
    }

    int page(int r, int s, int t) {
        return due("page(" + r + ", " + s + ", " + t + ")", real.page(r, s, t), model.page(r, s, t));
    }

    int count(int what) {
        return due("count(" + what + ")", real.count(what), model.count(what));
    }

    /** Every term of the SUM that the CHAIN is. */
    void askSums() {
        for (int what = 0; what < 2; what++) {
            int terms = sum(what);
            for (int i = -1; i <= terms; i++) {
                for (int j = 0; j < 4; j++) {
                    term(what, i, j);
                }
            }
        }
    }

    void askSpace() {
        int size = count(2);
        for (int e = -1; e <= size; e++) {
            for (int what = 0; what <= 12; what++) {
                about(e, what);
            }
            does(e);
        }
        for (int what = 0; what < 3; what++) {
            fault(what);
        }
    }

    void askTower() {
        for (int t = 0; t <= 14; t++) {
            for (int s = 0; s <= 5; s++) {
                live(s, t);
            }
            balance(t);
        }
        for (int i = 0; i <= 3; i++) {
            for (int s = 0; s <= 4; s++) {
                for (int t = 0; t + (1 << i) <= 14; t++) {
                    joins(i, s, t);
                }
            }
        }
    }

    /** All DIFFERENCES of a length are tried, in an order that the dice tell. */
    void tellDifferences(int r, Dice dice) {
        int places = 6 * 15;
        int step = new int[] {1, 7, 11, 13, 89}[dice.below(5)];
        int at = dice.below(places);
        for (int k = 0; k < places; k++) {
            at = (at + step) % places;
            differ(r, at / 15, at % 15, dice.from(1, 3));
        }
    }

    void askPages() {
        for (int r = 2; r <= 5; r++) {
            for (int s = 0; s <= 5; s++) {
                for (int t = 0; t <= 14; t++) {
                    page(r, s, t);
                }
            }
        }
        count(3);
    }
}
