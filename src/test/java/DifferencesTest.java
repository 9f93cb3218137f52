/** Promises 17 to 19: differ, page, count. */
public final class DifferencesTest {
    private static final int BAD = -1, STATE = -2;
    private static final int LEAST = Integer.MIN_VALUE, GREATEST = Integer.MAX_VALUE;

    public static void main(String[] args) {
        pagesWithoutDifferences();
        oneDifference();
        toldOnce();
        rowOfDifferences();
        ranksAtMost();
        longerEndsShorter();
        longerUsesWhatIsLeft();
        wrongDifferences();
        wrongPages();
        stateOfTheSpace();
        goneWhenTheSpaceChanges();
        stayWhenItDoesNot();
        counts();
        Check.finish("DifferencesTest");
    }

    /** POINTS of degree 0 and of degree 1, so that (s, t) and (s + 2, t + 1) are often both alive. */
    private static SquareTower points(int zeros, int ones) {
        SquareTower x = new SquareTower();
        for (int e = 0; e < zeros; e++) {
            x.element(0);
        }
        for (int e = 0; e < ones; e++) {
            x.element(1);
        }
        return x;
    }

    private static void pagesWithoutDifferences() {
        for (int r = 2; r <= 5; r++) {
            SquareTower x = points(2, 3);
            for (int s = 0; s <= 5; s++) {
                for (int t = 0; t <= 14; t++) {
                    Check.due("page(" + r + ", " + s + ", " + t + ")", x.page(r, s, t), x.live(s, t));
                }
            }
        }
    }

    // Of degree 1 there is (0, 1), of degree 0 there is (2, 2): a place for length 2.
    private static void oneDifference() {
        SquareTower x = points(3, 2);
        Check.due("page(2, 0, 1)", x.page(2, 0, 1), 2);
        Check.due("page(2, 2, 2)", x.page(2, 2, 2), 3);
        Check.due("differ(2, 0, 1, 2)", x.differ(2, 0, 1, 2), 1);
        Check.due("count(3)", x.count(3), 1);
        Check.due("page(2, 0, 1)", x.page(2, 0, 1), 2);
        Check.due("page(2, 2, 2)", x.page(2, 2, 2), 3);
        for (int r = 3; r <= 5; r++) {
            Check.due("page(" + r + ", 0, 1)", x.page(r, 0, 1), 0);
            Check.due("page(" + r + ", 2, 2)", x.page(r, 2, 2), 1);
            Check.due("page(" + r + ", 1, 1)", x.page(r, 1, 1), x.live(1, 1));
        }
        Check.due("live stays", x.live(0, 1), 2);
    }

    private static void toldOnce() {
        SquareTower x = points(3, 2);
        Check.due("differ(2, 0, 1, 1)", x.differ(2, 0, 1, 1), 1);
        Check.due("the same again", x.differ(2, 0, 1, 1), STATE);
        Check.due("count(3)", x.count(3), 1);
        Check.due("page(3, 0, 1)", x.page(3, 0, 1), 1);
        Check.due("the same of another length", x.differ(3, 0, 1, 1), x.live(3, 3) > 0 ? 1 : STATE);
    }

    /** From (0, 2) to (2, 3) to (4, 4): at the middle the ranks from there and to there count together. */
    private static void rowOfDifferences() {
        SquareTower x = new SquareTower();
        x.element(0);
        x.element(0);
        x.element(1);
        x.element(1);
        x.element(1);
        x.element(2);
        x.element(2);
        Check.due("page(2, 0, 2)", x.page(2, 0, 2), 2);
        Check.due("page(2, 2, 3)", x.page(2, 2, 3), 3);
        Check.due("page(2, 4, 4)", x.page(2, 4, 4), 2);
        Check.due("differ(2, 0, 2, 2)", x.differ(2, 0, 2, 2), 1);
        Check.due("differ(2, 2, 3, 2): 4 of 3", x.differ(2, 2, 3, 2), STATE);
        Check.due("differ(2, 2, 3, 1): 3 of 3", x.differ(2, 2, 3, 1), 1);
        Check.due("page(3, 0, 2)", x.page(3, 0, 2), 0);
        Check.due("page(3, 2, 3)", x.page(3, 2, 3), 0);
        Check.due("page(3, 4, 4)", x.page(3, 4, 4), 1);
        Check.due("count(3)", x.count(3), 2);
        x.act(1, 0, 0);
        Check.due("the other way: differ(2, 2, 3, 2)", x.differ(2, 2, 3, 2), 1);
        Check.due("differ(2, 0, 2, 2): 4 of 3 where it goes to", x.differ(2, 0, 2, 2), STATE);
        Check.due("differ(2, 0, 2, 1)", x.differ(2, 0, 2, 1), 1);
    }

    private static void ranksAtMost() {
        SquareTower x = points(2, 4);
        Check.due("above what is where it goes to", x.differ(2, 0, 1, 3), STATE);
        Check.due("99", x.differ(2, 0, 1, 99), STATE);
        Check.due("as much as there is", x.differ(2, 0, 1, 2), 1);
        x = points(4, 2);
        Check.due("above what is where it goes from", x.differ(2, 0, 1, 3), STATE);
        Check.due("from nothing", x.differ(2, 0, 4, 1), STATE);
        Check.due("to nothing", x.differ(3, 0, 1, 3), STATE);
        Check.due("as much as there is", x.differ(2, 0, 1, 2), 1);
        x = points(12, 0);
        Check.due("nothing fits", x.differ(2, 0, 0, 1), STATE);
    }

    private static void longerEndsShorter() {
        SquareTower x = points(3, 3);
        Check.due("differ(3, 0, 1, 1)", x.differ(3, 0, 1, 1), 1);
        Check.due("differ(2, 0, 1, 1): a longer one is told", x.differ(2, 0, 1, 1), STATE);
        Check.due("differ(2, 1, 2, 1): elsewhere, too", x.differ(2, 1, 2, 1), STATE);
        Check.due("differ(3, 1, 2, 1): of the same length", x.differ(3, 1, 2, 1), 1);
        Check.due("differ(4, 0, 1, 1)", x.differ(4, 0, 1, 1), 1);
        Check.due("differ(3, 2, 3, 1): a longer one is told", x.differ(3, 2, 3, 1), STATE);
        Check.due("differ(4, 1, 2, 1): of the same length", x.differ(4, 1, 2, 1), 1);
        Check.due("count(3)", x.count(3), 4);
    }

    private static void longerUsesWhatIsLeft() {
        SquareTower x = points(3, 3);
        Check.due("differ(2, 0, 1, 2)", x.differ(2, 0, 1, 2), 1);
        Check.due("differ(3, 0, 1, 2): 1 is left", x.differ(3, 0, 1, 2), STATE);
        Check.due("differ(3, 0, 1, 1)", x.differ(3, 0, 1, 1), 1);
        Check.due("page(4, 0, 1)", x.page(4, 0, 1), 0);
        Check.due("page(4, 3, 3)", x.page(4, 3, 3), 2);
        Check.due("page(3, 3, 3)", x.page(3, 3, 3), 3);
        Check.due("differ(4, 0, 1, 1): nothing is left", x.differ(4, 0, 1, 1), STATE);
        Check.due("count(3)", x.count(3), 2);
        x.act(1, 0, 0);
        Check.due("differ(4, 0, 1, 2)", x.differ(4, 0, 1, 2), 1);
        Check.due("page(4, 0, 1)", x.page(4, 0, 1), 3);
        Check.due("page(5, 0, 1)", x.page(5, 0, 1), 1);
        Check.due("page(5, 4, 4)", x.page(5, 4, 4), 1);
    }

    private static void wrongDifferences() {
        SquareTower x = points(3, 3);
        int[][] wrong = {
            {1, 0, 1, 1}, {5, 0, 1, 1}, {0, 0, 1, 1}, {-1, 0, 1, 1}, {LEAST, 0, 1, 1}, {GREATEST, 0, 1, 1},
            {2, -1, 1, 1}, {2, 6, 1, 1}, {2, LEAST, 1, 1}, {2, GREATEST, 1, 1}, {2, -2, 0, 1},
            {2, 0, -1, 1}, {2, 0, 15, 1}, {2, 0, LEAST, 1}, {2, 0, GREATEST, 1},
            {2, 0, 1, 0}, {2, 0, 1, -1}, {2, 0, 1, 100}, {2, 0, 1, LEAST}, {2, 0, 1, GREATEST},
            {2, 4, 1, 1}, {3, 3, 1, 1}, {4, 2, 1, 1}, {2, 5, 1, 1},
            {2, 0, 14, 1}, {3, 0, 13, 1}, {4, 0, 12, 1}};
        for (int[] call : wrong) {
            Check.due("differ(" + call[0] + ", " + call[1] + ", " + call[2] + ", " + call[3] + ")",
                    x.differ(call[0], call[1], call[2], call[3]), BAD);
        }
        Check.due("none told", x.count(3), 0);
        Check.due("differ(2, 3, 13, 3), at the end of the chart", x.differ(2, 3, 13, 3), 1);
        int[][] edges = {{2, 3, 13, 1}, {3, 2, 12, 1}, {4, 1, 11, 99}, {2, 3, 0, 1}};
        for (int[] call : edges) {
            Check.due("in the chart, but too much", x.differ(call[0], call[1], call[2], call[3]), STATE);
        }
    }

    private static void wrongPages() {
        SquareTower x = points(1, 0);
        int[][] wrong = {
            {1, 0, 0}, {6, 0, 0}, {LEAST, 0, 0}, {GREATEST, 0, 0}, {2, -1, 0}, {2, 6, 0}, {2, LEAST, 0},
            {2, GREATEST, 0}, {2, 0, -1}, {2, 0, 15}, {2, 0, LEAST}, {2, 0, GREATEST}};
        for (int[] call : wrong) {
            Check.due("page(" + call[0] + ", " + call[1] + ", " + call[2] + ")", x.page(call[0], call[1], call[2]),
                    BAD);
        }
        Check.due("page(5, 5, 14)", x.page(5, 5, 14), 1);
        Check.due("page(2, 0, 0)", x.page(2, 0, 0), 1);
    }

    private static void stateOfTheSpace() {
        SquareTower x = points(1, 1);
        x.element(2);
        x.act(1, 0, 2);
        x.act(1, 1, 4);
        Check.due("differ over a fault", x.differ(2, 0, 1, 1), STATE);
        Check.due("page over a fault", x.page(2, 0, 1), STATE);
        Check.due("wrong differ over a fault: BAD is ahead", x.differ(5, 0, 1, 1), BAD);
        Check.due("wrong page over a fault: BAD is ahead", x.page(6, 0, 1), BAD);
    }

    private static SquareTower withOneTold() {
        SquareTower x = points(3, 2);
        Check.due("differ", x.differ(2, 0, 1, 1), 1);
        Check.due("count(3) is 1", x.count(3), 1);
        return x;
    }

    private static void isGone(String by, SquareTower x) {
        Check.due("count(3) behind " + by, x.count(3), 0);
    }

    private static void goneWhenTheSpaceChanges() {
        SquareTower x = withOneTold();
        x.element(7);
        isGone("element", x);
        Check.due("told anew", x.differ(2, 0, 1, 1), 1);
        x.act(1, 0, 8);
        isGone("act", x);
        x = withOneTold();
        x.act(1, 3, 0);
        isGone("act that makes what it was", x);
        Check.due("page(3, 0, 1)", x.page(3, 0, 1), 2);
        x = withOneTold();
        x.space(0, 0, 0);
        isGone("space", x);
        x = withOneTold();
        x.empty();
        isGone("empty", x);
    }

    private static void stayWhenItDoesNot() {
        SquareTower x = withOneTold();
        x.element(13);
        x.act(1, 0, 1);
        x.act(0, 0, 0);
        x.space(0, 0, 13);
        x.differ(2, 0, 1, 1);
        x.differ(9, 0, 1, 1);
        x.square(3);
        x.square(2);
        x.clear();
        x.live(3, 3);
        x.joins(0, 0, 0);
        x.balance(5);
        x.fault(0);
        x.page(3, 0, 1);
        x.does(0);
        Check.due("count(3) stays", x.count(3), 1);
        Check.due("page(3, 0, 1) stays", x.page(3, 0, 1), 1);
        for (int e = 5; e < 12; e++) {
            x.element(1);
        }
        Check.due("differ with twelve ELEMENTS", x.differ(2, 0, 1, 1), 1);
        Check.due("one more is refused", x.element(0), -3);
        Check.due("count(3) stays then, too", x.count(3), 1);
    }

    private static void counts() {
        SquareTower x = points(2, 1);
        x.square(4);
        x.square(0);
        x.square(1);
        Check.due("count(0)", x.count(0), 3);
        Check.due("count(1)", x.count(1), 5);
        Check.due("count(2)", x.count(2), 3);
        Check.due("count(3)", x.count(3), 0);
        int[] wrong = {-1, 4, LEAST, GREATEST};
        for (int what : wrong) {
            Check.due("count(" + what + ")", x.count(what), BAD);
        }
    }
}
