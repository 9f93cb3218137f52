import java.util.ArrayList;
import java.util.List;

/**
 * The class and the model, asked the same; each answer must be the same. An object is used for 512 calls at most: then
 * a new one is brought to where the old one was.
 */
final class Both {
    private static final int CALLS = 512;

    private final Model model = new Model();
    /** The calls that made the CHAIN, and those that made the SPACE and its DIFFERENCES, as far as these still count. */
    private final List<States.Call> words = new ArrayList<>();
    private final List<States.Call> spaces = new ArrayList<>();
    private final StringBuilder run = new StringBuilder();
    private final String name;
    private SquareTower real = new SquareTower();
    private int asked = 0;

    Both(String name) {
        this.name = name;
    }

    private int due(String call, States.Call ask, int want) {
        if (asked == CALLS) {
            renew();
        }
        asked++;
        int got = ask.ask(real);
        run.append(call).append("; ");
        Check.due(got == want ? call : name + ": " + run, got, want);
        return want;
    }

    private void renew() {
        real = new SquareTower();
        List<States.Call> changes = new ArrayList<>(words);
        changes.addAll(spaces);
        for (States.Call change : changes) {
            change.ask(real);
        }
        asked = changes.size();
        run.append("(a new object); ");
    }

    private int dueWord(String call, States.Call ask, int want) {
        due(call, ask, want);
        if (want > 0) {
            words.add(ask);
        }
        return want;
    }

    private int dueSpace(String call, States.Call ask, int want) {
        due(call, ask, want);
        if (want >= 0) {
            spaces.add(ask);
        }
        return want;
    }

    /** In place of the SPACE that there was. */
    private int dueOther(String call, States.Call ask, int want) {
        due(call, ask, want);
        if (want >= 0) {
            spaces.clear();
            spaces.add(ask);
        }
        return want;
    }

    int square(int i) {
        return dueWord("square(" + i + ")", x -> x.square(i), model.square(i));
    }

    int clear() {
        int had = due("clear()", x -> x.clear(), model.clear());
        words.clear();
        return had;
    }

    int sum(int what) {
        return due("sum(" + what + ")", x -> x.sum(what), model.sum(what));
    }

    int term(int what, int i, int j) {
        return due("term(" + what + ", " + i + ", " + j + ")", x -> x.term(what, i, j), model.term(what, i, j));
    }

    int many(int degree) {
        return due("many(" + degree + ")", x -> x.many(degree), model.many(degree));
    }

    int empty() {
        return dueOther("empty()", x -> x.empty(), model.empty());
    }

    int element(int degree) {
        return dueSpace("element(" + degree + ")", x -> x.element(degree), model.element(degree));
    }

    int act(int i, int element, int bits) {
        return dueSpace("act(" + i + ", " + element + ", " + bits + ")", x -> x.act(i, element, bits),
                model.act(i, element, bits));
    }

    int space(int name, int m, int n) {
        return dueOther("space(" + name + ", " + m + ", " + n + ")", x -> x.space(name, m, n), model.space(name, m, n));
    }

    int does(int element) {
        return due("does(" + element + ")", x -> x.does(element), model.does(element));
    }

    int about(int element, int what) {
        return due("about(" + element + ", " + what + ")", x -> x.about(element, what), model.about(element, what));
    }

    int fault(int what) {
        return due("fault(" + what + ")", x -> x.fault(what), model.fault(what));
    }

    int live(int s, int t) {
        return due("live(" + s + ", " + t + ")", x -> x.live(s, t), model.live(s, t));
    }

    int joins(int i, int s, int t) {
        return due("joins(" + i + ", " + s + ", " + t + ")", x -> x.joins(i, s, t), model.joins(i, s, t));
    }

    int balance(int t) {
        return due("balance(" + t + ")", x -> x.balance(t), model.balance(t));
    }

    int differ(int r, int s, int t, int rank) {
        return dueSpace("differ(" + r + ", " + s + ", " + t + ", " + rank + ")", x -> x.differ(r, s, t, rank),
                model.differ(r, s, t, rank));
    }

    int page(int r, int s, int t) {
        return due("page(" + r + ", " + s + ", " + t + ")", x -> x.page(r, s, t), model.page(r, s, t));
    }

    int count(int what) {
        return due("count(" + what + ")", x -> x.count(what), model.count(what));
    }

    /** Every term of the SUM that the CHAIN is. */
    void askSums() {
        for (int what = 0; what < 2; what++) {
            int terms = sum(what);
            for (int i = -1; i <= terms; i++) {
                for (int j = 0; j < 4; j++) {
                    term(what, i, j);
                }
            }
        }
    }

    void askSpace() {
        int size = count(2);
        for (int e = -1; e <= size; e++) {
            for (int what = 0; what <= 12; what++) {
                about(e, what);
            }
            does(e);
        }
        for (int what = 0; what < 3; what++) {
            fault(what);
        }
    }

    void askTower() {
        for (int t = 0; t <= 14; t++) {
            for (int s = 0; s <= 5; s++) {
                live(s, t);
            }
            balance(t);
        }
        for (int i = 0; i <= 3; i++) {
            for (int s = 0; s <= 4; s++) {
                for (int t = 0; t + (1 << i) <= 14; t++) {
                    joins(i, s, t);
                }
            }
        }
    }

    /** All DIFFERENCES of a length are tried, in an order that the dice tell. */
    void tellDifferences(int r, Dice dice) {
        int places = 6 * 15;
        int step = new int[] {1, 7, 11, 13, 89}[dice.below(5)];
        int at = dice.below(places);
        for (int k = 0; k < places; k++) {
            at = (at + step) % places;
            differ(r, at / 15, at % 15, dice.from(1, 3));
        }
    }

    void askPages() {
        for (int r = 2; r <= 5; r++) {
            for (int s = 0; s <= 5; s++) {
                for (int t = 0; t <= 14; t++) {
                    page(r, s, t);
                }
            }
        }
        count(3);
    }
}
