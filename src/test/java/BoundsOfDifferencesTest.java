/** Promises 17 to 19, sentence by sentence: the last number that is taken, the first that is refused. */
public final class BoundsOfDifferencesTest {
    private static final int BAD = SquareTower.BAD, STATE = SquareTower.STATE;

    public static void main(String[] args) {
        Sentences.run(BoundsOfDifferencesTest.class);
    }

    /** POINTS of degree 0 and of degree 1: those live at (r, r), these at (0, 1), for each length r. */
    private static States.State points(int zeros, int ones) {
        return x -> {
            for (int e = 0; e < zeros; e++) {
                x.element(0);
            }
            for (int e = 0; e < ones; e++) {
                x.element(1);
            }
        };
    }

    private static States.State with(States.State before, int... difference) {
        return x -> {
            before.make(x);
            differ(x, difference);
        };
    }

    private static int differ(SquareTower x, int... d) {
        return x.differ(d[0], d[1], d[2], d[3]);
    }

    private static void told(String where, States.State before, int... d) {
        SquareTower x = States.made(before);
        int count = x.count(3);
        Check.due(where + ", " + Numbers.call("differ", d), differ(x, d), 1);
        Check.due(where + ", count(3) then", x.count(3), count + 1);
        Check.due(where + ", page ahead of it stays", x.page(d[0], d[1], d[2]),
                States.made(before).page(d[0], d[1], d[2]));
        Check.due(where + ", page behind it", x.page(d[0] + 1, d[1], d[2]),
                States.made(before).page(d[0] + 1, d[1], d[2]) - d[3]);
        Check.due(where + ", page where it goes to", x.page(d[0] + 1, d[1] + d[0], d[2] + d[0] - 1),
                States.made(before).page(d[0] + 1, d[1] + d[0], d[2] + d[0] - 1) - d[3]);
    }

    private static void refused(int due, States.State before, int... d) {
        Refused.answers(due, before, Numbers.call("differ", d), x -> differ(x, d));
    }

    // ---- promise 17: differ

    @Sentence(promise = 17, says = "The rank (1 .. 99) of a DIFFERENCE: 1.")
    static void p17_badIs_rankOutside1To99() {
        told("the least rank", points(3, 3), 2, 0, 1, 1);
        told("as much as there is", points(6, 6), 2, 0, 1, 6);
        refused(STATE, points(6, 6), 2, 0, 1, 7);
        refused(STATE, points(6, 6), 2, 0, 1, 99);
        for (int rank : Numbers.outside(1, 99)) {
            refused(BAD, points(6, 6), 2, 0, 1, rank);
            refused(BAD, with(points(3, 3), 2, 0, 1, 1), 3, 0, 1, rank);
        }
    }

    @Sentence(promise = 17, under = Sentences.TERMS, says = "DIFFERENCES of length r (2 .. 4) go from (s, t) to "
            + "(s + r, t + r - 1).")
    static void p17_badIs_r_outside2To4() {
        for (int r : Numbers.from(2, 4)) {
            told("length " + r, points(3, 2), r, 0, 1, 2);
        }
        for (int r : Numbers.outside(2, 4)) {
            for (States.State before : States.ALL) {
                refused(BAD, before, r, 0, 1, 1);
            }
            refused(BAD, points(3, 3), r, 5, 14, 1);
            refused(BAD, points(3, 3), r, 0, 0, 1);
        }
    }

    @Sentence(promise = 17, says = "BAD:")
    static void p17_badIs_s_outside0To5() {
        told("s 0", points(3, 3), 2, 0, 1, 1);
        for (int s : Numbers.outside(0, 5)) {
            for (int r = 2; r <= 4; r++) {
                refused(BAD, points(3, 3), r, s, 1, 1);
            }
            refused(BAD, States::unsound, 2, s, 1, 1);
        }
        refused(BAD, points(3, 3), 2, -2, 0, 1);
        refused(BAD, points(3, 3), 4, -4, 0, 1);
        refused(BAD, points(3, 3), 2, Numbers.GREATEST - 1, 1, 1);
    }

    @Sentence(promise = 17, under = Sentences.TERMS,
            says = "They and where they go to are in the chart (s 0 .. 5, t 0 .. 14).")
    static void p17_badIs_t_outside0To14() {
        // Nothing lives where one from t 0 goes to: there t is below s.
        refused(STATE, points(3, 3), 2, 0, 0, 1);
        refused(STATE, points(3, 3), 4, 0, 0, 1);
        told("t 1", points(3, 3), 4, 0, 1, 1);
        for (int t : Numbers.outside(0, 14)) {
            for (int r = 2; r <= 4; r++) {
                refused(BAD, points(3, 3), r, 0, t, 1);
            }
            refused(BAD, States::unsound, 2, 0, t, 1);
        }
        refused(BAD, points(3, 3), 4, 0, -3, 1);
        refused(BAD, points(3, 3), 2, 1, -15, 1);
        refused(BAD, points(3, 3), 4, 0, Numbers.GREATEST - 2, 1);
    }

    @Sentence(promise = 17, says = "also where it goes to is not in the chart (s 0 .. 5, t 0 .. 14);")
    static void p17_badIs_whereItGoesTo() {
        int[][] corners = {{2, 3, 13, 1}, {3, 2, 12, 2}, {4, 1, 11, 3}};
        for (int[] corner : corners) {
            int r = corner[0];
            int s = corner[1];
            int t = corner[2];
            // At (5, 14) there is a POINT of degree 0, at (s, t) the other one.
            States.State before = x -> States.elements(x, 0, corner[3]);
            told("to (5, 14)", before, r, s, t, 1);
            refused(BAD, before, r, s + 1, t, 1);
            refused(BAD, before, r, s, t + 1, 1);
            refused(BAD, before, r, s + 1, t + 1, 1);
            for (int far = s + 1; far <= 5; far++) {
                refused(BAD, before, r, far, 0, 1);
            }
            for (int far = t + 1; far <= 14; far++) {
                refused(BAD, before, r, 0, far, 1);
            }
            refused(STATE, before, r, s, 0, 1);
            refused(STATE, before, r, s, t, 2);
        }
    }

    @Sentence(promise = 17, says = "STATE: the SPACE is not SOUND")
    static void p17_stateIs_notSound() {
        refused(STATE, States::unsound, 2, 0, 1, 1);
        refused(STATE, States::unsound, 4, 1, 11, 99);
        SquareTower x = States.made(States::unsound);
        x.act(1, 1, 0);
        Check.due("SOUND, live(0, 1)", x.live(0, 1), 1);
        Check.due("SOUND, live(2, 2)", x.live(2, 2), 0);
        x.element(0);
        Check.due("live(2, 2) with a POINT more", x.live(2, 2), 1);
        Check.due("SOUND, differ(2, 0, 1, 1)", x.differ(2, 0, 1, 1), 1);
        x.act(1, 1, 4);
        Check.due("not SOUND again", x.differ(3, 0, 1, 1), STATE);
        Check.due("count(3)", x.count(3), 0);
    }

    @Sentence(promise = 17, says = "or it may not be told so.")
    static void p17_stateIs_nothingThere() {
        told("one at both places", points(1, 1), 2, 0, 1, 1);
        refused(STATE, points(1, 0), 2, 0, 1, 1);
        refused(STATE, points(0, 1), 2, 0, 1, 1);
        refused(STATE, States::nothing, 2, 0, 1, 1);
        refused(STATE, States::nothing, 4, 1, 11, 1);
        refused(STATE, points(1, 1), 2, 0, 1, 2);
    }

    @Sentence(promise = 17, under = Sentences.TERMS,
            says = "Ranks are 0 at first; one above 0 may be told once for each r, s, t")
    static void p17_stateIs_toldAgain() {
        States.State once = with(points(3, 3), 2, 0, 1, 1);
        refused(STATE, once, 2, 0, 1, 1);
        refused(STATE, once, 2, 0, 1, 2);
        told("another length", once, 3, 0, 1, 1);
        told("another s", once, 2, 1, 2, 1);
        // (0, 3) and (2, 4) live by POINTS of degrees 3 and 0.
        States.State other = x -> {
            States.elements(x, 0, 1, 3);
            x.differ(2, 0, 1, 1);
        };
        told("another t", other, 2, 0, 3, 1);
        SquareTower x = States.made(once);
        x.empty();
        points(3, 3).make(x);
        Check.due("of another SPACE", x.differ(2, 0, 1, 1), 1);
        SquareTower refusedFirst = States.made(points(3, 3));
        Check.due("too much", refusedFirst.differ(2, 0, 1, 4), STATE);
        Check.due("what was refused is not told", refusedFirst.differ(2, 0, 1, 3), 1);
    }

    @Sentence(promise = 17, under = Sentences.TERMS, says = "if no DIFFERENCE of greater length is told")
    static void p17_stateIs_longerTold() {
        for (int longer = 2; longer <= 4; longer++) {
            States.State before = with(points(3, 3), longer, 0, 1, 1);
            for (int r = 2; r <= 4; r++) {
                if (r < longer) {
                    refused(STATE, before, r, 0, 1, 1);
                    refused(STATE, before, r, 1, 2, 1);
                } else {
                    told(longer + " is told, " + r, before, r, 1, 2, 1);
                }
            }
        }
        States.State apart = x -> {
            States.elements(x, 0, 3, 0, 1);
            x.differ(4, 1, 11, 1);
        };
        Check.due("count(3)", States.made(apart).count(3), 1);
        refused(STATE, apart, 3, 0, 1, 1);
        refused(STATE, apart, 2, 0, 1, 1);
        told("the same length", apart, 4, 0, 1, 1);
    }

    @Sentence(promise = 17, under = Sentences.TERMS, says = "and at both places the ranks of this r from there and to "
            + "there are PAGE (r, ..) at most then.")
    static void p17_stateIs_moreThanThePage() {
        told("two of two where it goes from", points(5, 2), 2, 0, 1, 2);
        refused(STATE, points(5, 2), 2, 0, 1, 3);
        told("two of two where it goes to", points(2, 5), 2, 0, 1, 2);
        refused(STATE, points(2, 5), 2, 0, 1, 3);
        for (int r = 2; r <= 3; r++) {
            States.State used = with(points(3, 5), r, 0, 1, 2);
            told("what is left", with(points(5, 3), r, 0, 1, 2), r + 1, 0, 1, 1);
            refused(STATE, with(points(5, 3), r, 0, 1, 2), r + 1, 0, 1, 2);
            Check.due("where it went to", States.made(used).page(r + 1, r, r), States.made(used).live(r, r) - 2);
        }
    }

    /** From (0, 2) to (2, 3) to (4, 4), by POINTS of degrees 2, 1, and 0: both count in the middle. */
    @Sentence(promise = 17, under = Sentences.TERMS, says = "from there and to there")
    static void p17_stateIs_fromAndToTogether() {
        States.State three = x -> States.elements(x, 0, 0, 0, 1, 1, 1, 2, 2, 2);
        States.State to = with(three, 2, 0, 2, 2);
        told("one of one left, from there", to, 2, 2, 3, 1);
        refused(STATE, to, 2, 2, 3, 2);
        States.State from = with(three, 2, 2, 3, 2);
        told("one of one left, to there", from, 2, 0, 2, 1);
        refused(STATE, from, 2, 0, 2, 2);
        States.State all = with(from, 2, 0, 2, 1);
        SquareTower x = States.made(all);
        Check.due("page(2, 2, 3)", x.page(2, 2, 3), 3);
        Check.due("page(3, 2, 3)", x.page(3, 2, 3), 0);
        Check.due("page(3, 0, 2)", x.page(3, 0, 2), 2);
        Check.due("page(3, 4, 4)", x.page(3, 4, 4), 1);
        refused(STATE, all, 3, 2, 3, 1);
    }

    @Sentence(promise = 17, under = Sentences.TERMS, says = Sentences.REFUSED)
    static void p17_badIsAheadOfState() {
        int[][] wrong = {{1, 0, 1, 1}, {5, 0, 1, 1}, {2, -1, 1, 1}, {2, 4, 1, 1}, {2, 0, -1, 1}, {2, 0, 14, 1},
            {2, 0, 1, 0}, {2, 0, 1, 100}, {3, 0, 13, 1}, {4, 0, 12, 1}, {3, 3, 1, 1}, {4, 2, 1, 1}};
        States.State[] states = {States::unsound, with(points(3, 3), 2, 0, 1, 1), with(points(3, 3), 4, 0, 1, 1),
            States::nothing};
        for (States.State before : states) {
            for (int[] call : wrong) {
                refused(BAD, before, call);
            }
            refused(STATE, before, 2, 0, 1, 99);
            refused(STATE, before, 2, 3, 13, 99);
            refused(STATE, before, 2, 0, 0, 1);
        }
    }

    // ---- promise 18: page

    @Sentence(promise = 18, says = "PAGE (r, s, t), r 2 .. 5.")
    static void p18_pages2To5() {
        SquareTower x = States.made(points(4, 5));
        for (int r = 2; r <= 4; r++) {
            Check.due(Numbers.call("differ", r, 0, 1, 1), x.differ(r, 0, 1, 1), 1);
        }
        for (int r = 2; r <= 5; r++) {
            Check.due(Numbers.call("page", r, 0, 1), x.page(r, 0, 1), 5 - (r - 2));
            for (int to = 2; to <= 4; to++) {
                Check.due(Numbers.call("page", r, to, to), x.page(r, to, to), r <= to ? 4 : 3);
            }
            Check.due(Numbers.call("page", r, 5, 14), x.page(r, 5, 14), 4);
            Check.due(Numbers.call("page", r, 0, 0), x.page(r, 0, 0), 4);
        }
    }

    @Sentence(promise = 18, under = Sentences.TERMS, says = "PAGE (2, s, t) is LIVE; PAGE (r + 1, s, t) is "
            + "PAGE (r, s, t) less the ranks of the DIFFERENCES of length r from there and to there.")
    static void p18_downTo0() {
        SquareTower x = States.made(points(2, 2));
        Check.due("differ(2, 0, 1, 1)", x.differ(2, 0, 1, 1), 1);
        Check.due("differ(3, 0, 1, 1)", x.differ(3, 0, 1, 1), 1);
        int[] due = {2, 1, 0, 0};
        for (int r = 2; r <= 5; r++) {
            Check.due(Numbers.call("page", r, 0, 1), x.page(r, 0, 1), due[r - 2]);
        }
        Check.due("live(0, 1)", x.live(0, 1), 2);
        Check.due("nothing is left for length 4", x.differ(4, 0, 1, 1), STATE);
        Check.due("page(5, 4, 4)", x.page(5, 4, 4), 2);
    }

    @Sentence(promise = 18, under = Sentences.TERMS, says = "from there and to there.")
    static void p18_onlyAtTheTwoPlaces() {
        int told = 0;
        for (int[] degrees : new int[][] {{0, 1}, {0, 1, 2, 3}, {0, 3}}) {
            for (int r = 2; r <= 4; r++) {
                for (int s = 0; s + r <= 5; s++) {
                    for (int t = 0; t + r - 1 <= 14; t++) {
                        SquareTower x = States.ofElements(degrees);
                        if (x.differ(r, s, t, 1) == 1) {
                            told++;
                            oneLess(x, r, s, t);
                        }
                    }
                }
            }
        }
        Check.holds("many were told: " + told, told > 40);
    }

    /** Behind one DIFFERENCE of rank 1 all pages are as LIVE, but for the two places from the next page on. */
    private static void oneLess(SquareTower x, int r, int s, int t) {
        for (int u = 0; u <= 5; u++) {
            for (int v = 0; v <= 14; v++) {
                int live = x.live(u, v);
                boolean there = u == s && v == t || u == s + r && v == t + r - 1;
                for (int page = 2; page <= 5; page++) {
                    Check.due(Numbers.call("differ", r, s, t, 1) + ", " + Numbers.call("page", page, u, v),
                            x.page(page, u, v), there && page > r ? live - 1 : live);
                }
            }
        }
    }

    @Sentence(promise = 18, says = "BAD;")
    static void p18_badIs_r_outside2To5() {
        for (int r : Numbers.from(2, 5)) {
            Check.due(Numbers.call("page", r, 0, 0), States.made(points(3, 0)).page(r, 0, 0), 3);
        }
        for (int r : Numbers.outside(2, 5)) {
            Refused.badAnywhere(Numbers.call("page", r, 0, 0), x -> x.page(r, 0, 0));
            Refused.bad(States::some, Numbers.call("page", r, 0, 1), x -> x.page(r, 0, 1));
        }
    }

    @Sentence(promise = 18, says = "PAGE (r, s, t)")
    static void p18_badIs_outsideTheChart() {
        for (int r : Numbers.from(2, 5)) {
            SquareTower y = States.made(points(1, 0));
            Check.due(Numbers.call("page", r, 0, 0), y.page(r, 0, 0), 1);
            Check.due(Numbers.call("page", r, 5, 14), y.page(r, 5, 14), 1);
            Check.due(Numbers.call("page", r, 5, 0), y.page(r, 5, 0), 0);
            Check.due(Numbers.call("page", r, 0, 14), y.page(r, 0, 14), 0);
            for (int s : Numbers.outside(0, 5)) {
                Refused.bad(States::some, Numbers.call("page", r, s, 1), x -> x.page(r, s, 1));
            }
            for (int t : Numbers.outside(0, 14)) {
                Refused.bad(States::some, Numbers.call("page", r, 0, t), x -> x.page(r, 0, t));
            }
        }
        Refused.badAnywhere("page(2, 6, 0)", x -> x.page(2, 6, 0));
        Refused.badAnywhere("page(2, -1, 0)", x -> x.page(2, -1, 0));
        Refused.badAnywhere("page(2, 0, 15)", x -> x.page(2, 0, 15));
        Refused.badAnywhere("page(2, 0, -1)", x -> x.page(2, 0, -1));
    }

    @Sentence(promise = 18, says = "STATE.")
    static void p18_stateIs_notSound() {
        for (int r : Numbers.from(2, 5)) {
            Refused.answers(STATE, States::unsound, Numbers.call("page", r, 0, 0), x -> x.page(r, 0, 0));
            Refused.answers(STATE, States::unsound, Numbers.call("page", r, 5, 14), x -> x.page(r, 5, 14));
        }
        SquareTower x = States.made(States::unsound);
        x.act(1, 1, 0);
        Check.due("SOUND, page(5, 0, 0)", x.page(5, 0, 0), 1);
        x.act(1, 1, 4);
        Check.due("not SOUND again, page(5, 0, 0)", x.page(5, 0, 0), STATE);
    }

    @Sentence(promise = 18, under = Sentences.TERMS, says = Sentences.REFUSED)
    static void p18_badIsAheadOfState() {
        int[][] wrong = {{1, 0, 0}, {6, 0, 0}, {2, -1, 0}, {2, 6, 0}, {2, 0, -1}, {2, 0, 15},
            {Numbers.GREATEST, Numbers.LEAST, Numbers.GREATEST}};
        for (int[] call : wrong) {
            Refused.bad(States::unsound, Numbers.call("page", call), x -> x.page(call[0], call[1], call[2]));
        }
    }

    // ---- promise 19: count

    @Sentence(promise = 19, says = "0 numbers of the CHAIN, 1 its degree, 2 ELEMENTS, 3 DIFFERENCES with a rank above 0.")
    static void p19_noneAndMost() {
        SquareTower none = new SquareTower();
        for (int what = 0; what <= 3; what++) {
            Check.due(Numbers.call("count", what), none.count(what), 0);
        }
        SquareTower most = States.ofChain(0, 7, 1, 0, 6, 0);
        points(6, 6).make(most);
        Check.due("count(0)", most.count(0), 6);
        Check.due("count(1)", most.count(1), 14);
        Check.due("count(2)", most.count(2), 12);
        int told = 0;
        for (int r = 2; r <= 4; r++) {
            for (int s = 0; s + r <= 5; s++) {
                for (int t = 0; t + r - 1 <= 14; t++) {
                    told += most.differ(r, s, t, 1) == 1 ? 1 : 0;
                    Check.due("count(3)", most.count(3), told);
                }
            }
        }
        Check.holds("many DIFFERENCES were told: " + told, told > 10);
    }

    @Sentence(promise = 19, says = "3 DIFFERENCES with a rank above 0.")
    static void p19_oneForEachNotByRank() {
        SquareTower x = States.made(points(6, 6));
        Check.due("differ(2, 0, 1, 5)", x.differ(2, 0, 1, 5), 1);
        Check.due("count(3)", x.count(3), 1);
        Check.due("differ(2, 0, 1, 1)", x.differ(2, 0, 1, 1), STATE);
        Check.due("differ(2, 0, 1, 0)", x.differ(2, 0, 1, 0), BAD);
        Check.due("count(3)", x.count(3), 1);
        Check.due("differ(3, 0, 1, 1)", x.differ(3, 0, 1, 1), 1);
        Check.due("count(3)", x.count(3), 2);
        x.empty();
        Check.due("count(3)", x.count(3), 0);
    }

    @Sentence(promise = 19, says = "BAD.")
    static void p19_badIs_whatOutside0To3() {
        SquareTower y = States.made(States::some);
        int[] due = {2, 6, 6, 1};
        for (int what = 0; what < due.length; what++) {
            Check.due(Numbers.call("count", what), y.count(what), due[what]);
        }
        for (int what : Numbers.outside(0, 3)) {
            Refused.badAnywhere(Numbers.call("count", what), x -> x.count(what));
        }
    }
}
