/** Promises 14 to 16: live, joins, balance. */
public final class TowersTest {
    private static final int BAD = -1, STATE = -2;
    private static final int BAD_BALANCE = -1000000, STATE_BALANCE = -2000000;
    private static final int LEAST = Integer.MIN_VALUE, GREATEST = Integer.MAX_VALUE;
    /** What lives over the POINT of degree 0: for each s, the degrees, each once. */
    private static final int[][] LIVING = {
        {0}, {1, 2, 4, 8}, {2, 4, 5, 8, 9, 10}, {3, 6, 10, 11, 12}, {4, 11, 13}, {5, 14}};
    /** What S(2^i) joins over it: i, s, t. */
    private static final int[][] JOINED = {
        {0, 0, 0}, {1, 0, 0}, {2, 0, 0}, {3, 0, 0},
        {0, 1, 1}, {1, 1, 2}, {2, 1, 1}, {0, 1, 4}, {2, 1, 4}, {3, 1, 1}, {0, 1, 8}, {3, 1, 2}, {1, 1, 8},
        {0, 2, 2}, {0, 2, 5}, {1, 2, 4}, {2, 2, 2}, {3, 2, 2}, {0, 2, 9}, {2, 2, 8}, {1, 2, 10}, {3, 2, 4},
        {0, 3, 3}, {0, 3, 10}, {3, 3, 3}, {1, 3, 11},
        {0, 4, 4}};

    public static void main(String[] args) {
        livingOverPoints();
        joinedOverPoints();
        nothingOverNothing();
        freePieces();
        manyPoints();
        livingOverLines();
        rankOfWiderTables();
        unsound();
        wrongPlaces();
        afterChanges();
        Check.finish("TowersTest");
    }

    private static boolean isLiving(int s, int t) {
        for (int degree : LIVING[s]) {
            if (degree == t) {
                return true;
            }
        }
        return false;
    }

    private static boolean isJoined(int i, int s, int t) {
        for (int[] join : JOINED) {
            if (join[0] == i && join[1] == s && join[2] == t) {
                return true;
            }
        }
        return false;
    }

    private static void livingOverPoints() {
        for (int n = 0; n <= 12; n++) {
            SquareTower x = new SquareTower();
            x.space(0, 0, n);
            for (int s = 0; s <= 5; s++) {
                for (int t = 0; t <= 14; t++) {
                    Check.due("POINT " + n + ", live(" + s + ", " + t + ")", x.live(s, t), isLiving(s, t - n) ? 1 : 0);
                }
            }
        }
    }

    private static void joinedOverPoints() {
        for (int n = 0; n <= 12; n += 3) {
            SquareTower x = new SquareTower();
            x.space(0, 0, n);
            for (int i = 0; i <= 3; i++) {
                for (int s = 0; s <= 4; s++) {
                    for (int t = 0; t + (1 << i) <= 14; t++) {
                        Check.due("POINT " + n + ", joins(" + i + ", " + s + ", " + t + ")", x.joins(i, s, t),
                                isJoined(i, s, t - n) ? 1 : 0);
                    }
                }
            }
        }
    }

    private static void nothingOverNothing() {
        SquareTower x = new SquareTower();
        for (int t = 0; t <= 14; t++) {
            for (int s = 0; s <= 5; s++) {
                Check.due("live over nothing", x.live(s, t), 0);
            }
            Check.due("balance over nothing", x.balance(t), 0);
        }
        Check.due("joins over nothing", x.joins(3, 4, 6), 0);
    }

    /** An ELEMENT and S(1) of it: F(1) has what goes to S(2), S(2) S(1), S(4), S(8) of the one generator. */
    private static void freePieces() {
        SquareTower x = new SquareTower();
        x.element(0);
        x.element(1);
        x.act(1, 0, 2);
        int[] due = {0, 0, 1, 1, 1, 0, 0, 0, 1};
        for (int t = 0; t < due.length; t++) {
            Check.due("live(1, " + t + ")", x.live(1, t), due[t]);
        }
        Check.due("live(0, 0)", x.live(0, 0), 1);
        Check.due("live(0, 1)", x.live(0, 1), 0);
        Check.due("joins(0, 0, 0)", x.joins(0, 0, 0), 0);
        Check.due("joins(1, 0, 0)", x.joins(1, 0, 0), 1);
        Check.due("joins(2, 0, 0)", x.joins(2, 0, 0), 1);
        Check.due("joins(3, 0, 0)", x.joins(3, 0, 0), 1);
    }

    /** The largest towers that there are: twelve POINTS of degree 0. */
    private static void manyPoints() {
        SquareTower x = new SquareTower();
        SquareTower one = new SquareTower();
        one.space(0, 0, 0);
        for (int e = 0; e < 12; e++) {
            x.element(0);
        }
        for (int t = 0; t <= 14; t++) {
            for (int s = 0; s <= 5; s++) {
                Check.due("twelve POINTS, live(" + s + ", " + t + ")", x.live(s, t), 12 * one.live(s, t));
            }
            Check.due("twelve POINTS, balance(" + t + ")", x.balance(t), 12 * one.balance(t));
        }
        for (int[] join : JOINED) {
            Check.due("twelve POINTS, joins", x.joins(join[0], join[1], join[2]), 12);
        }
        int[] due = {0, 0, 0, 0, 0, 0, -1, 0, -1, -1, -1, -1, -2, -2, -2};
        for (int t = 0; t <= 14; t++) {
            Check.due("POINT, balance(" + t + ")", one.balance(t), due[t]);
        }
    }

    private static void livingOverLines() {
        SquareTower x = new SquareTower();
        x.space(1, 1, 12);
        int[] onto = {0, 1, 0, 1, 0, 0, 0, 1, 0, 0, 0, 0, 0, 0, 0};
        int[] next = {0, 0, 0, 1, 1, 1, 0, 1, 1, 2, 0, 1, 0, 1, 0};
        for (int t = 0; t <= 14; t++) {
            Check.due("LINES, live(0, " + t + ")", x.live(0, t), onto[t]);
            Check.due("LINES, live(1, " + t + ")", x.live(1, t), next[t]);
            Check.due("LINES, balance(" + t + ")", x.balance(t), 0);
        }
    }

    /** Two generators of one degree, and acts that tie one, both, or their SUM. */
    private static void rankOfWiderTables() {
        SquareTower x = new SquareTower();
        x.element(0);
        x.element(0);
        x.element(1);
        x.element(1);
        Check.due("nothing tied, joins(0, 0, 0)", x.joins(0, 0, 0), 2);
        x.act(1, 0, 4);
        Check.due("one tied, joins(0, 0, 0)", x.joins(0, 0, 0), 1);
        x.act(1, 1, 4);
        Check.due("both tied to one, joins(0, 0, 0)", x.joins(0, 0, 0), 1);
        x.act(1, 1, 8);
        Check.due("tied each, joins(0, 0, 0)", x.joins(0, 0, 0), 0);
        Check.due("tied each, live(1, 1)", x.live(1, 1), 0);
        Check.due("tied each, joins(1, 0, 0)", x.joins(1, 0, 0), 2);
    }

    private static void unsound() {
        SquareTower x = new SquareTower();
        x.element(0);
        x.element(3);
        x.act(3, 0, 2);
        Check.due("live", x.live(0, 0), STATE);
        Check.due("joins", x.joins(0, 0, 0), STATE);
        Check.due("balance", x.balance(0), STATE_BALANCE);
        Check.due("live of a wrong place: BAD is ahead", x.live(6, 0), BAD);
        Check.due("joins of a wrong place: BAD is ahead", x.joins(0, 5, 0), BAD);
        Check.due("balance of a wrong degree: BAD is ahead", x.balance(15), BAD_BALANCE);
    }

    private static void wrongPlaces() {
        SquareTower x = new SquareTower();
        x.space(0, 0, 0);
        int[] wrong = {-1, 15, 32, LEAST, GREATEST};
        for (int t : wrong) {
            Check.due("live(0, " + t + ")", x.live(0, t), BAD);
            Check.due("joins(0, 0, " + t + ")", x.joins(0, 0, t), BAD);
            Check.due("balance(" + t + ")", x.balance(t), BAD_BALANCE);
        }
        int[] high = {-1, 6, 32, LEAST, GREATEST};
        for (int s : high) {
            Check.due("live(" + s + ", 0)", x.live(s, 0), BAD);
            Check.due("joins(0, " + s + ", 0)", x.joins(0, s, 0), BAD);
        }
        Check.due("joins(0, 5, 0)", x.joins(0, 5, 0), BAD);
        int[] acts = {-1, 4, 31, 32, LEAST, GREATEST};
        for (int i : acts) {
            Check.due("joins(" + i + ", 0, 0)", x.joins(i, 0, 0), BAD);
        }
        for (int i = 0; i <= 3; i++) {
            Check.due("joins at the top, i " + i, x.joins(i, 0, 14 - (1 << i)), 0);
            Check.due("joins above the top, i " + i, x.joins(i, 0, 15 - (1 << i)), BAD);
        }
    }

    /** The tower is of the SPACE as it is, whatever was asked before. */
    private static void afterChanges() {
        SquareTower x = new SquareTower();
        x.space(0, 0, 0);
        Check.due("live(5, 14)", x.live(5, 14), 1);
        x.element(1);
        Check.due("live(0, 1) with an ELEMENT more", x.live(0, 1), 1);
        x.act(1, 0, 2);
        Check.due("live(0, 1) with an act", x.live(0, 1), 0);
        Check.due("live(2, 2)", x.live(2, 2), 0);
        x.space(2, 0, 6);
        Check.due("live(0, 2) over PAIRS", x.live(0, 2), 1);
        Check.due("live(1, 4) over PAIRS", x.live(1, 4), 1);
        x.empty();
        Check.due("live(0, 0) over nothing", x.live(0, 0), 0);
        x.space(0, 0, 3);
        Check.due("low first, live(0, 3)", x.live(0, 3), 1);
        Check.due("then high, live(3, 14)", x.live(3, 14), 1);
        Check.due("then low, live(1, 4)", x.live(1, 4), 1);
    }
}
