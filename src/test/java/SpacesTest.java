/** Promises 7 to 13: empty, element, act, space, does, about, fault. */
public final class SpacesTest {
    private static final int BAD = -1, STATE = -2, FULL = -3, NONE = -9;
    private static final int LEAST = Integer.MIN_VALUE, GREATEST = Integer.MAX_VALUE;

    public static void main(String[] args) {
        emptyTells();
        elementTells();
        elementRefuses();
        actTells();
        actRefuses();
        points();
        lines();
        pairs();
        spaceRefuses();
        spaceReplaces();
        doesTells();
        aboutTells();
        faultTells();
        faultInOrder();
        Check.finish("SpacesTest");
    }

    private static SquareTower of(int... degrees) {
        SquareTower x = new SquareTower();
        for (int degree : degrees) {
            x.element(degree);
        }
        return x;
    }

    private static void emptyTells() {
        SquareTower x = of(3, 4, 5);
        x.act(1, 0, 2);
        x.square(3);
        Check.due("empty() of three", x.empty(), 3);
        Check.due("empty() again", x.empty(), 0);
        Check.due("about(0, 0) then", x.about(0, 0), BAD);
        Check.due("the CHAIN stays", x.count(0), 1);
        Check.due("element(3) anew", x.element(3), 0);
        x.element(4);
        Check.due("what acts made is gone, too", x.about(0, 1), 0);
    }

    private static void elementTells() {
        SquareTower x = new SquareTower();
        for (int k = 0; k < 12; k++) {
            Check.due("element " + k, x.element((k * 5) % 13), k);
        }
        for (int k = 0; k < 12; k++) {
            Check.due("its degree " + k, x.about(k, 0), (k * 5) % 13);
            for (int i = 1; i <= 12; i++) {
                Check.due("nothing at first", x.about(k, i), 0);
            }
        }
        Check.due("count(2)", x.count(2), 12);
    }

    private static void elementRefuses() {
        SquareTower x = new SquareTower();
        Check.due("element(-1)", x.element(-1), BAD);
        Check.due("element(13)", x.element(13), BAD);
        Check.due("element(least)", x.element(LEAST), BAD);
        Check.due("element(greatest)", x.element(GREATEST), BAD);
        Check.due("none came", x.count(2), 0);
        for (int k = 0; k < 12; k++) {
            x.element(12);
        }
        Check.due("a thirteenth", x.element(0), FULL);
        Check.due("a thirteenth of a wrong degree: BAD is ahead", x.element(13), BAD);
        Check.due("twelve stay", x.count(2), 12);
    }

    private static void actTells() {
        SquareTower x = of(0, 2, 2, 12);
        Check.due("act(2, 0, both)", x.act(2, 0, 6), 0);
        Check.due("act(2, 0, one)", x.act(2, 0, 4), 6);
        Check.due("act(2, 0, nothing)", x.act(2, 0, 0), 4);
        Check.due("act(12, 0, the last)", x.act(12, 0, 8), 0);
        Check.due("about(0, 12)", x.about(0, 12), 8);
        Check.due("act(10, 2, the last)", x.act(10, 2, 8), 0);
        Check.due("about(1, 10)", x.about(1, 10), 0);
        Check.due("about(2, 10)", x.about(2, 10), 8);
        Check.due("act(12, 3, nothing)", x.act(12, 3, 0), 0);
    }

    private static void actRefuses() {
        SquareTower x = of(0, 1, 2, 1);
        x.act(1, 0, 10);
        int[][] wrong = {
            {0, 0, 0}, {13, 0, 0}, {-1, 0, 0}, {LEAST, 0, 0}, {GREATEST, 0, 0},
            {1, -1, 0}, {1, 4, 0}, {1, 32, 0}, {1, LEAST, 0}, {1, GREATEST, 0},
            {1, 0, 1}, {1, 0, 4}, {1, 0, 14}, {1, 0, 16}, {1, 0, -1}, {1, 0, LEAST}, {1, 0, GREATEST},
            {2, 0, 2}, {1, 2, 1}, {12, 1, 8}};
        for (int[] call : wrong) {
            Check.due("act(" + call[0] + ", " + call[1] + ", " + call[2] + ")", x.act(call[0], call[1], call[2]), BAD);
        }
        Check.due("nothing has changed", x.about(0, 1), 10);
        Check.due("act on none", new SquareTower().act(1, 0, 0), BAD);
    }

    private static void points() {
        SquareTower x = new SquareTower();
        for (int n = 0; n <= 12; n++) {
            Check.due("POINT " + n, x.space(0, n % 2 == 0 ? LEAST : 99, n), 1);
            Check.due("its degree", x.about(0, 0), n);
            for (int i = 1; i <= 12; i++) {
                Check.due("S of it", x.about(0, i), 0);
            }
        }
    }

    private static void lines() {
        for (int m = 1; m <= 12; m++) {
            for (int n = m; n <= 12; n++) {
                SquareTower x = new SquareTower();
                Check.due("LINES " + m + " " + n, x.space(1, m, n), n - m + 1);
                Check.due("SOUND", x.fault(0), NONE);
                checkSpread(x, m, n, 1);
            }
        }
    }

    private static void pairs() {
        for (int m = 0; m <= 6; m++) {
            for (int n = m; n <= 6; n++) {
                SquareTower x = new SquareTower();
                Check.due("PAIRS " + m + " " + n, x.space(2, m, n), n - m + 1);
                Check.due("SOUND", x.fault(0), NONE);
                checkSpread(x, m, n, 2);
            }
        }
    }

    private static void checkSpread(SquareTower x, int m, int n, int step) {
        for (int k = m; k <= n; k++) {
            Check.due("degree", x.about(k - m, 0), step * k);
            for (int i = 1; i <= 12; i++) {
                boolean there = i % step == 0 && k + i / step <= n && oddChoices(k, i / step);
                Check.due("S(" + i + ") of " + step * k, x.about(k - m, i), there ? 1 << (k + i / step - m) : 0);
            }
        }
    }

    private static boolean oddChoices(int n, int k) {
        int[] row = new int[n + 2];
        row[0] = 1;
        for (int r = 0; r < n; r++) {
            for (int j = n; j > 0; j--) {
                row[j] ^= row[j - 1];
            }
        }
        return k <= n && row[k] == 1;
    }

    private static void spaceRefuses() {
        SquareTower x = of(5, 6);
        x.act(1, 0, 2);
        int[][] wrong = {
            {-1, 1, 1}, {3, 1, 1}, {LEAST, 1, 1}, {GREATEST, 1, 1},
            {0, 0, -1}, {0, 0, 13}, {0, 0, LEAST}, {0, 0, GREATEST},
            {1, 0, 3}, {1, -1, 3}, {1, 4, 3}, {1, 1, 13}, {1, 13, 13}, {1, LEAST, 3}, {1, 1, GREATEST}, {1, 0, 0},
            {2, -1, 3}, {2, 4, 3}, {2, 0, 7}, {2, 7, 7}, {2, LEAST, 3}, {2, 0, GREATEST}, {2, 0, -1}};
        for (int[] call : wrong) {
            Check.due("space(" + call[0] + ", " + call[1] + ", " + call[2] + ")", x.space(call[0], call[1], call[2]),
                    BAD);
        }
        Check.due("two ELEMENTS stay", x.count(2), 2);
        Check.due("and what S(1) makes", x.about(0, 1), 2);
    }

    private static void spaceReplaces() {
        SquareTower x = new SquareTower();
        x.space(1, 1, 12);
        Check.due("PAIRS in place of LINES", x.space(2, 1, 3), 3);
        Check.due("nothing of LINES is left", x.about(0, 1), 0);
        Check.due("nor there", x.about(3, 0), BAD);
        Check.due("an ELEMENT more", x.element(0), 3);
        Check.due("S(1) makes nothing of it", x.about(3, 1), 0);
    }

    private static void doesTells() {
        SquareTower x = new SquareTower();
        x.space(1, 1, 12);
        Check.due("the empty CHAIN", x.does(4), 1 << 4);
        x.square(0);
        Check.due("S(0)", x.does(4), 1 << 4);
        x.clear();
        x.square(2);
        x.square(1);
        Check.due("S(2) S(1) of the first: the last one first", x.does(0), 1 << 3);
        x.clear();
        x.square(1);
        x.square(2);
        Check.due("S(1) S(2) of the first", x.does(0), 0);
        Check.due("S(1) S(2) of degree 2", x.does(1), 0);
        Check.due("S(1) S(2) of degree 3", x.does(2), 1 << 5);
        x.clear();
        x.square(14);
        Check.due("S(14)", x.does(0), 0);
        x.clear();
        x.square(13);
        Check.due("S(13)", x.does(0), 0);
        Check.due("does(-1)", x.does(-1), BAD);
        Check.due("does(12)", x.does(12), BAD);
        Check.due("does(least)", x.does(LEAST), BAD);
        Check.due("does(greatest)", x.does(GREATEST), BAD);
        doesWithoutTheRule();
    }

    /** Where THE RULE does not hold, what the CHAIN makes is still what its squares make, one behind the other. */
    private static void doesWithoutTheRule() {
        SquareTower x = of(0, 1, 2, 1, 2);
        x.act(1, 0, 2 + 8);
        x.act(1, 1, 4 + 16);
        x.act(1, 3, 16);
        x.square(1);
        x.square(1);
        Check.due("S(1) S(1) as told", x.does(0), 4);
        Check.due("its sum", x.sum(0), 0);
    }

    private static void aboutTells() {
        SquareTower x = of(7, 9);
        x.act(2, 0, 2);
        Check.due("about(0, 0)", x.about(0, 0), 7);
        Check.due("about(1, 0)", x.about(1, 0), 9);
        Check.due("about(0, 2)", x.about(0, 2), 2);
        int[] wrong = {-1, 13, LEAST, GREATEST};
        for (int what : wrong) {
            Check.due("about(0, " + what + ")", x.about(0, what), BAD);
        }
        int[] none = {-1, 2, 12, LEAST, GREATEST};
        for (int e : none) {
            Check.due("about(" + e + ", 0)", x.about(e, 0), BAD);
        }
    }

    private static void faultIs(SquareTower x, int a, int b, int element) {
        Check.due("fault(0)", x.fault(0), a);
        Check.due("fault(1)", x.fault(1), b);
        Check.due("fault(2)", x.fault(2), element);
    }

    private static void faultTells() {
        SquareTower x = new SquareTower();
        faultIs(x, NONE, NONE, NONE);
        int[] wrong = {-1, 3, LEAST, GREATEST};
        for (int what : wrong) {
            Check.due("fault(" + what + ")", x.fault(what), BAD);
        }
        x = of(0, 3);
        x.act(3, 0, 2);
        faultIs(x, 1, 2, 0);
        x = of(0, 5);
        x.act(5, 0, 2);
        faultIs(x, 1, 4, 0);
        x = of(0, 6);
        x.act(6, 0, 2);
        faultIs(x, 2, 4, 0);
        x = of(0, 12);
        x.act(12, 0, 2);
        faultIs(x, 4, 8, 0);
        for (int i = 1; i <= 8; i *= 2) {
            x = of(1, 1 + i);
            x.act(i, 0, 2);
            faultIs(x, NONE, NONE, NONE);
        }
        x = of(0, 12, 6);
        x.act(6, 2, 2);
        x.act(4, 2, 0);
        faultIs(x, 2, 4, 2);
    }

    private static void faultInOrder() {
        SquareTower x = of(6, 9, 0, 3, 0, 2, 3, 1);
        x.act(3, 0, 2);
        x.act(3, 2, 8);
        faultIs(x, 1, 2, 0);
        x.act(3, 0, 0);
        faultIs(x, 1, 2, 2);
        x.act(2, 4, 32);
        x.act(1, 5, 8);
        faultIs(x, 1, 2, 2);
        x.act(3, 2, 0);
        faultIs(x, 1, 2, 4);
        x.act(1, 4, 128);
        x.act(1, 7, 32);
        faultIs(x, 1, 1, 4);
        Check.due("live with a fault", x.live(0, 0), STATE);
        x.act(1, 4, 0);
        x.act(1, 5, 0);
        x.act(2, 7, 8);
        faultIs(x, NONE, NONE, NONE);
        Check.due("live when SOUND again", x.live(0, 0), 2);
    }
}
