/** Promises 14 to 16, sentence by sentence: the last number that is taken, the first that is refused. */
public final class BoundsOfTowersTest {
    private static final int BAD = SquareTower.BAD, STATE = SquareTower.STATE;
    private static final int BAD_BALANCE = -1000000, STATE_BALANCE = -2000000;
    private static final int POINT = 0, LINES = 1, PAIRS = 2;

    public static void main(String[] args) {
        Sentences.run(BoundsOfTowersTest.class);
    }

    private static SquareTower point(int degree) {
        return States.made(x -> x.space(POINT, 0, degree));
    }

    // ---- promise 14: live

    @Sentence(promise = 14, says = "LIVE (s, t).")
    static void p14_liveAtTheCorners() {
        Check.due("POINT 0, live(0, 0)", point(0).live(0, 0), 1);
        Check.due("POINT 0, live(5, 14)", point(0).live(5, 14), 1);
        Check.due("POINT 0, live(0, 14)", point(0).live(0, 14), 0);
        Check.due("POINT 0, live(5, 0)", point(0).live(5, 0), 0);
        Check.due("POINT 0, live(5, 4)", point(0).live(5, 4), 0);
        Check.due("POINT 0, live(5, 5)", point(0).live(5, 5), 1);
        Check.due("POINT 9, live(5, 14)", point(9).live(5, 14), 1);
        Check.due("POINT 10, live(5, 14)", point(10).live(5, 14), 0);
        Check.due("POINT 12, live(0, 12)", point(12).live(0, 12), 1);
        Check.due("POINT 12, live(0, 14)", point(12).live(0, 14), 0);
        Check.due("POINT 12, live(1, 14)", point(12).live(1, 14), 1);
        Check.due("POINT 12, live(2, 14)", point(12).live(2, 14), 1);
        Check.due("POINT 12, live(3, 14)", point(12).live(3, 14), 0);
        Check.due("no ELEMENTS, live(0, 0)", new SquareTower().live(0, 0), 0);
        Check.due("no ELEMENTS, live(5, 14)", new SquareTower().live(5, 14), 0);
        Check.due("twelve POINTS, live(5, 14)",
                States.ofElements(0, 0, 0, 0, 0, 0, 0, 0, 0, 0, 0, 0).live(5, 14), 12);
    }

    /** The largest towers that there are: twelve ELEMENTS of degree 0. */
    @Sentence(promise = 14, under = Sentences.TERMS, says = "ELEMENTS (12 at most)")
    static void p14_elevenAndTwelveElements() {
        SquareTower one = point(0);
        for (int n = 11; n <= 12; n++) {
            SquareTower x = new SquareTower();
            for (int e = 0; e < n; e++) {
                x.element(0);
            }
            for (int s = 0; s <= 5; s++) {
                for (int t = 14; t >= 0; t--) {
                    Check.due(n + " POINTS, " + Numbers.call("live", s, t), x.live(s, t), n * one.live(s, t));
                }
            }
            for (int t = 0; t <= 14; t++) {
                Check.due(n + " POINTS, " + Numbers.call("balance", t), x.balance(t), n * one.balance(t));
            }
        }
    }

    @Sentence(promise = 14, says = "BAD;")
    static void p14_badIs_s_outside0To5() {
        for (int s : Numbers.from(0, 5)) {
            Check.due(Numbers.call("live", s, s), point(0).live(s, s), 1);
        }
        for (int s : Numbers.outside(0, 5)) {
            Refused.badAnywhere(Numbers.call("live", s, 0), x -> x.live(s, 0));
            Refused.bad(States::some, Numbers.call("live", s, 14), x -> x.live(s, 14));
        }
        // Fifteen times this number wraps around to -1.
        Refused.bad(States::some, "live(286331153, 1)", x -> x.live(286331153, 1));
        Refused.bad(States::some, "live(6, -15)", x -> x.live(6, -15));
    }

    @Sentence(promise = 14, under = Sentences.TERMS, says = "LIVE (s, t), s 0 .. 5, t 0 .. 14")
    static void p14_badIs_t_outside0To14() {
        for (int t : Numbers.from(0, 14)) {
            Check.due(Numbers.call("live", 0, t), point(Math.min(t, 12)).live(0, t), t <= 12 ? 1 : 0);
        }
        for (int t : Numbers.outside(0, 14)) {
            Refused.badAnywhere(Numbers.call("live", 0, t), x -> x.live(0, t));
            Refused.bad(States::some, Numbers.call("live", 5, t), x -> x.live(5, t));
        }
        Refused.bad(States::some, "live(1, -15), which would be (0, 0) in a row", x -> x.live(1, -15));
        Refused.bad(States::some, "live(0, 15), which would be (1, 0) in a row", x -> x.live(0, 15));
    }

    @Sentence(promise = 14, says = "STATE: the SPACE is not SOUND.")
    static void p14_stateIs_notSound() {
        Refused.answers(STATE, States::unsound, "live(0, 0)", x -> x.live(0, 0));
        Refused.answers(STATE, States::unsound, "live(5, 14)", x -> x.live(5, 14));
        SquareTower x = States.made(States::unsound);
        x.act(1, 1, 0);
        Check.due("SOUND, live(0, 0)", x.live(0, 0), 1);
        x.act(1, 1, 4);
        Check.due("not SOUND again, live(0, 0)", x.live(0, 0), STATE);
        x.act(1, 0, 0);
        Check.due("SOUND in another way, live(0, 0)", x.live(0, 0), 1);
        Check.due("SOUND in another way, live(0, 1)", x.live(0, 1), 2);
    }

    @Sentence(promise = 14, under = Sentences.TERMS, says = Sentences.REFUSED)
    static void p14_badIsAheadOfState() {
        int[][] wrong = {{6, 0}, {-1, 0}, {0, 15}, {0, -1}, {Numbers.GREATEST, Numbers.LEAST}};
        for (int[] call : wrong) {
            Refused.bad(States::unsound, Numbers.call("live", call), x -> x.live(call[0], call[1]));
        }
        Refused.answers(STATE, States::unsound, "live(5, 14)", x -> x.live(5, 14));
    }

    // ---- promise 15: joins

    @Sentence(promise = 15, says = "RANK of JOINS (i, s, t).")
    static void p15_joinsAtTheCorners() {
        Check.due("POINT 0, joins(0, 0, 0)", point(0).joins(0, 0, 0), 1);
        Check.due("POINT 0, joins(3, 0, 0)", point(0).joins(3, 0, 0), 1);
        Check.due("POINT 0, joins(0, 4, 4)", point(0).joins(0, 4, 4), 1);
        Check.due("POINT 9, joins(0, 4, 13)", point(9).joins(0, 4, 13), 1);
        Check.due("POINT 6, joins(3, 0, 6)", point(6).joins(3, 0, 6), 1);
        Check.due("twelve POINTS, joins(3, 0, 0)",
                States.ofElements(0, 0, 0, 0, 0, 0, 0, 0, 0, 0, 0, 0).joins(3, 0, 0), 12);
    }

    @Sentence(promise = 15, under = Sentences.TERMS, says = "its RANK by twos (0 where there are none).")
    static void p15_0WhereThereAreNone() {
        Check.due("no ELEMENTS", new SquareTower().joins(0, 0, 0), 0);
        Check.due("no generator g", point(0).joins(0, 0, 1), 0);
        Check.due("no generator f", point(0).joins(1, 1, 1), 0);
        // ELEMENT 1 has no f by S(1), as S(1) makes ELEMENT 2 of it; the f of degree 3 goes to S(2) of ELEMENT 0.
        SquareTower apart = States.ofElements(1, 2, 3);
        apart.act(1, 1, 4);
        Check.due("both there: g", apart.live(0, 2), 1);
        Check.due("both there: f", apart.live(1, 3), 1);
        Check.due("both there, but not joined", apart.joins(0, 0, 2), 0);
        SquareTower tied = States.ofElements(0, 1);
        tied.act(1, 0, 2);
        Check.due("neither: S(1) is in the SPACE", tied.joins(0, 0, 0), 0);
        Check.due("S(2) is not", tied.joins(1, 0, 0), 1);
        Check.due("a table of rank 1, of 2 by 2", rankOne().joins(0, 0, 0), 1);
        Check.due("its generators g", rankOne().live(0, 0), 2);
        Check.due("its generators f", rankOne().live(1, 1), 1);
    }

    private static SquareTower rankOne() {
        SquareTower x = States.ofElements(0, 0, 1, 1);
        x.act(1, 0, 4);
        x.act(1, 1, 4);
        return x;
    }

    @Sentence(promise = 15, says = "BAD:")
    static void p15_badIs_i_outside0To3() {
        for (int i : Numbers.from(0, 3)) {
            Check.due(Numbers.call("joins", i, 0, 0), point(0).joins(i, 0, 0), 1);
        }
        for (int i : Numbers.outside(0, 3)) {
            Refused.badAnywhere(Numbers.call("joins", i, 0, 0), x -> x.joins(i, 0, 0));
        }
        // A shift by 31 makes the least int of 1; by -28 .. -32 it makes 16 .. 1.
        for (int i : new int[] {31, 33, 34, 35, -28, -29, -30, -31}) {
            Refused.bad(States::some, Numbers.call("joins", i, 0, 0), x -> x.joins(i, 0, 0));
            Refused.bad(States::some, Numbers.call("joins", i, 0, 14), x -> x.joins(i, 0, 14));
        }
    }

    @Sentence(promise = 15, under = Sentences.TERMS, says = "JOINS (i, s, t), i 0 .. 3, s 0 .. 4")
    static void p15_badIs_s_outside0To4() {
        for (int s : Numbers.from(0, 4)) {
            Check.due(Numbers.call("joins", 0, s, s), point(0).joins(0, s, s), 1);
        }
        for (int s : Numbers.outside(0, 4)) {
            Refused.badAnywhere(Numbers.call("joins", 0, s, 0), x -> x.joins(0, s, 0));
            Refused.bad(States::some, Numbers.call("joins", 3, s, 6), x -> x.joins(3, s, 6));
        }
        Refused.bad(States::some, "joins(0, 5, 5): live(5, 5) is", x -> x.joins(0, 5, 5));
    }

    @Sentence(promise = 15, under = Sentences.TERMS, says = "with g(1), .. the generators of F(s) of degree t")
    static void p15_badIs_t_below0() {
        for (int i : Numbers.from(0, 3)) {
            Check.due(Numbers.call("joins", i, 0, 0), point(0).joins(i, 0, 0), 1);
            for (int t : new int[] {-1, -2, -4, -8, -(1 << i), -32, Numbers.LEAST, Numbers.LEAST + 1}) {
                Refused.badAnywhere(Numbers.call("joins", i, 0, t), x -> x.joins(i, 0, t));
            }
        }
    }

    @Sentence(promise = 15, says = "also t + 2^i above 14;")
    static void p15_badIs_sumAbove14() {
        int[][] last = {{0, 1, 13, 12}, {1, 0, 12, 12}, {2, 0, 10, 10}, {3, 0, 6, 6}};
        for (int[] call : last) {
            int i = call[0];
            int t = call[2];
            SquareTower y = point(call[3]);
            Check.due(Numbers.call("joins", i, call[1], t), y.joins(i, call[1], t), 1);
            for (int s = 0; s <= 4; s++) {
                int at = s;
                Check.holds("taken", y.joins(i, s, t) >= 0);
                Refused.badAnywhere(Numbers.call("joins", i, s, t + 1), x -> x.joins(i, at, t + 1));
            }
            int[] far = {14, 15, Numbers.GREATEST, Numbers.GREATEST - (1 << i), Numbers.GREATEST - (1 << i) + 1,
                Numbers.GREATEST - 7};
            for (int wrong : far) {
                Refused.badAnywhere(Numbers.call("joins", i, 0, wrong), x -> x.joins(i, 0, wrong));
            }
        }
    }

    @Sentence(promise = 15, under = Sentences.TERMS, says = "those of F(s + 1) of degree t + 2^i (14 at most)")
    static void p15_14AtMost() {
        for (int i : Numbers.from(0, 3)) {
            SquareTower x = point(0);
            for (int t = -1; t <= 15; t++) {
                boolean fits = t >= 0 && t + (1 << i) <= 14;
                Check.due(Numbers.call("joins", i, 0, t) + " is refused", x.joins(i, 0, t) == BAD ? 1 : 0, fits ? 0 : 1);
            }
        }
    }

    @Sentence(promise = 15, says = "STATE.")
    static void p15_stateIs_notSound() {
        Refused.answers(STATE, States::unsound, "joins(0, 0, 0)", x -> x.joins(0, 0, 0));
        Refused.answers(STATE, States::unsound, "joins(3, 4, 6)", x -> x.joins(3, 4, 6));
        SquareTower x = States.made(States::unsound);
        x.act(1, 1, 0);
        Check.due("SOUND, joins(1, 0, 0)", x.joins(1, 0, 0), 1);
        x.act(1, 1, 4);
        Check.due("not SOUND again, joins(1, 0, 0)", x.joins(1, 0, 0), STATE);
    }

    @Sentence(promise = 15, under = Sentences.TERMS, says = Sentences.REFUSED)
    static void p15_badIsAheadOfState() {
        int[][] wrong = {{4, 0, 0}, {-1, 0, 0}, {0, 5, 0}, {0, -1, 0}, {0, 0, -1}, {0, 0, 14}, {1, 0, 13}, {2, 0, 11},
            {3, 0, 7}, {3, 0, Numbers.GREATEST}};
        for (int[] call : wrong) {
            Refused.bad(States::unsound, Numbers.call("joins", call), x -> x.joins(call[0], call[1], call[2]));
        }
        int[][] last = {{0, 4, 13}, {1, 4, 12}, {2, 4, 10}, {3, 4, 6}, {0, 0, 0}};
        for (int[] call : last) {
            Refused.answers(STATE, States::unsound, Numbers.call("joins", call),
                    x -> x.joins(call[0], call[1], call[2]));
        }
    }

    // ---- promise 16: balance

    @Sentence(promise = 16, says = "Turn by turn: the sum over s of (-1)^s times how many there are of degree t in F(s) "
            + "(all CHAINS of generators), s 0 .. 5, less what the SPACE has of degree t.")
    static void p16_turnByTurn() {
        int[] manyChains = {1, 1, 1, 2, 2, 2, 3, 4, 4, 5, 6, 6, 7, 8, 9};
        for (int[] space : new int[][] {{POINT, 0, 0}, {POINT, 0, 12}, {LINES, 1, 12}, {LINES, 3, 5}, {PAIRS, 0, 6}}) {
            SquareTower x = States.made(y -> y.space(space[0], space[1], space[2]));
            SquareTower of = States.made(y -> y.space(space[0], space[1], space[2]));
            for (int t = 0; t <= 14; t++) {
                int due = 0;
                for (int e = 0; e < of.count(2); e++) {
                    due -= x.about(e, 0) == t ? 1 : 0;
                }
                for (int s = 0; s <= 5; s++) {
                    for (int d = 0; d <= t; d++) {
                        due += (s % 2 == 0 ? 1 : -1) * of(space, s, d) * manyChains[t - d];
                    }
                }
                Check.due(Numbers.call("space", space) + ", " + Numbers.call("balance", t), x.balance(t), due);
            }
        }
    }

    private static int of(int[] space, int s, int t) {
        return States.made(y -> y.space(space[0], space[1], space[2])).live(s, t);
    }

    @Sentence(promise = 16, says = "BAD is told as -1000000")
    static void p16_badIs_t_outside0To14() {
        Check.due("balance(0)", point(0).balance(0), 0);
        Check.due("balance(14)", point(0).balance(14), -2);
        Check.due("balance(14), no ELEMENTS", new SquareTower().balance(14), 0);
        for (int t : Numbers.outside(0, 14)) {
            for (States.State before : States.ALL) {
                Refused.answers(BAD_BALANCE, before, Numbers.call("balance", t), x -> x.balance(t));
            }
        }
    }

    @Sentence(promise = 16, says = "STATE as -2000000.")
    static void p16_stateIs_notSound() {
        for (int t : new int[] {0, 1, 14}) {
            Refused.answers(STATE_BALANCE, States::unsound, Numbers.call("balance", t), x -> x.balance(t));
        }
        SquareTower x = States.made(States::unsound);
        x.act(1, 1, 0);
        Check.due("SOUND, balance(0)", x.balance(0), 0);
        x.act(1, 1, 4);
        Check.due("not SOUND again, balance(0)", x.balance(0), STATE_BALANCE);
    }

    @Sentence(promise = 16, under = Sentences.TERMS, says = Sentences.REFUSED)
    static void p16_badIsAheadOfState() {
        Refused.answers(BAD_BALANCE, States::unsound, "balance(15)", x -> x.balance(15));
        Refused.answers(BAD_BALANCE, States::unsound, "balance(-1)", x -> x.balance(-1));
        Refused.answers(STATE_BALANCE, States::unsound, "balance(14)", x -> x.balance(14));
        Refused.answers(STATE_BALANCE, States::unsound, "balance(0)", x -> x.balance(0));
    }

    @Sentence(promise = 16, says = "(It is 0 as long as t is below the least degree of a generator of F(6).)")
    static void p16_0BelowTheLeastOfF6() {
        for (int n : Numbers.from(0, 12)) {
            SquareTower x = point(n);
            for (int t = 0; t <= 14 && t < n + 6; t++) {
                Check.due("POINT " + n + ", " + Numbers.call("balance", t), x.balance(t), 0);
            }
            if (n + 6 <= 14) {
                Check.due("POINT " + n + " has one in F(6), " + Numbers.call("balance", n + 6), x.balance(n + 6), -1);
            }
        }
        SquareTower twelve = States.ofElements(0, 0, 0, 0, 0, 0, 0, 0, 0, 0, 0, 0);
        Check.due("twelve POINTS, balance(5)", twelve.balance(5), 0);
        Check.due("twelve POINTS, balance(6)", twelve.balance(6), -12);
    }
}
