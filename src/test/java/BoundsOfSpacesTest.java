/** Promises 7 to 13, sentence by sentence: the last number that is taken, the first that is refused. */
public final class BoundsOfSpacesTest {
    private static final int BAD = SquareTower.BAD, STATE = SquareTower.STATE, FULL = SquareTower.FULL,
            NONE = SquareTower.NONE;
    private static final int POINT = 0, LINES = 1, PAIRS = 2;
    /** Two or more ELEMENTS of some degrees, one and none of others. */
    private static final int[] DEGREES = {0, 0, 1, 1, 2, 3, 5, 6, 8, 11, 12, 12};

    public static void main(String[] args) {
        Sentences.run(BoundsOfSpacesTest.class);
    }

    // ---- promise 7: empty

    @Sentence(promise = 7, says = "No ELEMENTS: how many there were")
    static void p07_howManyThereWere() {
        for (int n : Numbers.from(0, 12)) {
            SquareTower x = new SquareTower();
            for (int k = 0; k < n; k++) {
                x.element(k);
            }
            Check.due("empty() of " + n, x.empty(), n);
            Check.due("count(2)", x.count(2), 0);
            Check.due("about(0, 0)", x.about(0, 0), BAD);
            Check.due("empty() again", x.empty(), 0);
            Check.due("the next ELEMENT is the first", x.element(12), 0);
        }
        SquareTower refused = States.ofElements(DEGREES);
        refused.element(0);
        refused.element(13);
        Check.due("what was refused is not there", refused.empty(), 12);
    }

    @Sentence(promise = 7, says = "No ELEMENTS")
    static void p07_notTheChain() {
        SquareTower x = States.made(States::some);
        Check.due("empty()", x.empty(), 6);
        Check.due("count(0)", x.count(0), 2);
        Check.due("count(1)", x.count(1), 6);
        x.element(0);
        x.element(1);
        Check.due("what S(1) made is gone", x.about(0, 1), 0);
    }

    @Sentence(promise = 7, says = "(DIFFERENCES are gone, here")
    static void p07_differencesAreGone() {
        SquareTower x = States.made(States::some);
        Check.due("count(3) ahead", x.count(3), 1);
        x.empty();
        Check.due("count(3)", x.count(3), 0);
        x.space(LINES, 1, 3);
        Check.due("page(3, 0, 1)", x.page(3, 0, 1), 1);
    }

    @Sentence(promise = 7, says = "and whenever the SPACE changes).")
    static void p07_differencesAreGoneWithAChange() {
        gone("element(0)", x -> x.element(0), 6);
        gone("act(1, 0, 0)", x -> x.act(1, 0, 0), 8);
        gone("act(1, 0, 16)", x -> x.act(1, 0, 16), 8);
        gone("act(12, 0, 0)", x -> x.act(12, 0, 0), 0);
        gone("space(POINT, 0, 0)", x -> x.space(POINT, 0, 0), 1);
        gone("space(LINES, 1, 12)", x -> x.space(LINES, 1, 12), 12);
        gone("space(PAIRS, 0, 6)", x -> x.space(PAIRS, 0, 6), 7);
        stay("element(13)", x -> x.element(13), BAD);
        stay("act(13, 0, 0)", x -> x.act(13, 0, 0), BAD);
        stay("act(1, 0, 1)", x -> x.act(1, 0, 1), BAD);
        stay("act(1, 6, 0)", x -> x.act(1, 6, 0), BAD);
        stay("space(LINES, 0, 3)", x -> x.space(LINES, 0, 3), BAD);
        stay("square(8)", x -> x.square(8), 3);
        stay("clear()", x -> x.clear(), 2);
        stay("live(5, 14)", x -> x.live(5, 14), x -> x.live(5, 14));
        Refused.answers(FULL, States::fullSpace, "element(0) with twelve", x -> x.element(0));
    }

    private static void gone(String call, States.Call change, int due) {
        SquareTower x = States.made(States::some);
        Check.due("count(3) ahead of " + call, x.count(3), 1);
        Check.due(call, change.ask(x), due);
        Check.due("count(3) behind " + call, x.count(3), 0);
        for (int s = 0; s <= 5; s++) {
            for (int t = 0; t <= 14; t++) {
                Check.due("page is as live behind " + call, x.page(5, s, t), x.live(s, t));
            }
        }
    }

    private static void stay(String call, States.Call ask, int due) {
        stay(call, ask, x -> due);
    }

    private static void stay(String call, States.Call ask, States.Call due) {
        SquareTower x = States.made(States::some);
        Check.due(call, ask.ask(x), due.ask(States.made(States::some)));
        Check.due("count(3) behind " + call, x.count(3), 1);
        Check.due("page(3, 0, 1) behind " + call, x.page(3, 0, 1), 0);
        Check.due("page(2, 0, 1) behind " + call, x.page(2, 0, 1), 1);
    }

    // ---- promise 8: element

    @Sentence(promise = 8, says = "An ELEMENT: its number.")
    static void p08_itsNumber() {
        SquareTower x = new SquareTower();
        for (int k : Numbers.from(0, 11)) {
            Check.due("element(" + DEGREES[k] + ")", x.element(DEGREES[k]), k);
            Check.due("its degree", x.about(k, 0), DEGREES[k]);
            Check.due("count(2)", x.count(2), k + 1);
            Check.due("the next one is not there", x.about(k + 1, 0), BAD);
        }
    }

    @Sentence(promise = 8, says = "BAD;")
    static void p08_badIs_degreeOutside0To12() {
        for (int degree : Numbers.from(0, 12)) {
            SquareTower x = new SquareTower();
            Check.due(Numbers.call("element", degree), x.element(degree), 0);
            Check.due("its degree", x.about(0, 0), degree);
        }
        for (int degree : Numbers.outside(0, 12)) {
            Refused.badAnywhere(Numbers.call("element", degree), x -> x.element(degree));
        }
    }

    @Sentence(promise = 8, says = "FULL.")
    static void p08_fullIs_12() {
        int[] eleven = {0, 1, 2, 3, 4, 5, 6, 7, 8, 9, 10};
        for (int degree : new int[] {0, 7, 12}) {
            Check.due("the twelfth", States.ofElements(eleven).element(degree), 11);
            Refused.answers(FULL, x -> {
                States.elements(x, eleven);
                x.element(0);
            }, "the thirteenth", x -> x.element(degree));
            Refused.answers(FULL, x -> x.space(LINES, 1, 12), "one more than LINES 1 .. 12", x -> x.element(degree));
            Check.due("one more than LINES 2 .. 12", States.made(x -> x.space(LINES, 2, 12)).element(degree), 11);
        }
        SquareTower again = States.ofElements(DEGREES);
        Check.due("a thirteenth", again.element(0), FULL);
        Check.due("empty()", again.empty(), 12);
        Check.due("the first again", again.element(0), 0);
    }

    @Sentence(promise = 8, under = Sentences.TERMS, says = Sentences.REFUSED)
    static void p08_badIsAheadOfFull() {
        Refused.answers(FULL, States::fullSpace, "twelve, element(12)", x -> x.element(12));
        Refused.bad(States::fullSpace, "twelve, element(13)", x -> x.element(13));
        Refused.answers(FULL, States::fullSpace, "twelve, element(0)", x -> x.element(0));
        Refused.bad(States::fullSpace, "twelve, element(-1)", x -> x.element(-1));
    }

    // ---- promise 9: act

    @Sentence(promise = 9, says = "What S(i) makes of an ELEMENT, as bits of ELEMENTS: what it was.")
    static void p09_whatItWas() {
        SquareTower x = States.ofElements(0, 3, 3, 0);
        Check.due("nothing at first", x.act(3, 0, 6), 0);
        Check.due("both", x.act(3, 0, 2), 6);
        Check.due("one", x.act(3, 0, 0), 2);
        Check.due("nothing again", x.act(3, 0, 4), 0);
        Check.due("about(0, 3)", x.about(0, 3), 4);
        Check.due("of another ELEMENT", x.act(3, 3, 2), 0);
        Check.due("by another square", x.act(2, 0, 0), 0);
        x.act(3, 0, 1);
        Check.due("what was refused does not count", x.act(3, 0, 0), 4);
    }

    @Sentence(promise = 9, says = "BAD: i 1 .. 12")
    static void p09_badIs_i_outside1To12() {
        for (int i : Numbers.from(1, 12)) {
            SquareTower x = States.ofElements(0, i);
            Check.due(Numbers.call("act", i, 0, 2), x.act(i, 0, 2), 0);
            Check.due(Numbers.call("about", 0, i), x.about(0, i), 2);
        }
        for (int i : Numbers.outside(1, 12)) {
            Refused.badAnywhere(Numbers.call("act", i, 0, 0), x -> x.act(i, 0, 0));
        }
        Refused.bad(States::fullSpace, "act(0, 0, its own degree)", x -> x.act(0, 0, 1));
        Refused.bad(x -> States.elements(x, 1, 0), "act(-1, 0, the degree below)", x -> x.act(-1, 0, 2));
        Refused.bad(x -> States.elements(x, 12, 0), "act(13, 0, 0)", x -> x.act(13, 0, 0));
    }

    @Sentence(promise = 9, under = Sentences.TERMS, says = "there is no such thing")
    static void p09_badIs_noSuchElement() {
        for (int n : new int[] {1, 6, 12}) {
            int last = n - 1;
            States.State before = x -> {
                for (int k = 0; k < n; k++) {
                    x.element(k % 2);
                }
            };
            Check.due("the last one", States.made(before).act(1, last, 0), 0);
            for (int e : Numbers.outside(0, last)) {
                Refused.bad(before, Numbers.call("act", 1, e, 0), x -> x.act(1, e, 0));
            }
        }
        Refused.bad(States::nothing, "act(1, 0, 0) without ELEMENTS", x -> x.act(1, 0, 0));
    }

    @Sentence(promise = 9, says = "bits of others than of the right degree.")
    static void p09_badIs_bitsOfOthers() {
        for (int e : Numbers.from(0, 11)) {
            for (int i : Numbers.from(1, 12)) {
                int right = bitsOfDegree(DEGREES[e] + i);
                SquareTower x = States.ofElements(DEGREES);
                Check.due("all of the right degree", x.act(i, e, right), 0);
                for (int bit = 0; bit < 32; bit++) {
                    boolean fits = (right >> bit & 1) == 1;
                    Check.due(Numbers.call("act", i, e, 1 << bit), x.act(i, e, 1 << bit), fits ? right : BAD);
                    if (!fits) {
                        Check.due("with the right ones", x.act(i, e, right | 1 << bit), BAD);
                    }
                    Check.due("about it", x.about(e, i), fits ? 1 << bit : right);
                    x.act(i, e, right);
                }
                Check.due("none", x.act(i, e, 0), right);
            }
        }
    }

    private static int bitsOfDegree(int degree) {
        int bits = 0;
        for (int e = 0; e < DEGREES.length; e++) {
            bits |= DEGREES[e] == degree ? 1 << e : 0;
        }
        return bits;
    }

    @Sentence(promise = 9, says = "bits of others than of the right degree.")
    static void p09_badIs_farBits() {
        int[] far = {-1, -2, 1 << 12, 8 | 1 << 12, 1 << 30, Numbers.LEAST, Numbers.LEAST + 8, Numbers.GREATEST, 4096,
            65536 + 8};
        Check.due("act(1, 0, 24)", States.made(States::some).act(1, 0, 24), 8);
        for (int bits : far) {
            Refused.bad(States::some, Numbers.call("act", 1, 0, bits), x -> x.act(1, 0, bits));
            Refused.bad(States::unsound, Numbers.call("act", 1, 0, bits), x -> x.act(1, 0, bits));
        }
        Refused.bad(States::some, "one of its own degree", x -> x.act(1, 0, 2));
        Refused.bad(States::some, "one of a degree more", x -> x.act(1, 0, 32));
        Refused.bad(States::some, "the next one, which is not there", x -> x.act(1, 0, 64));
    }

    @Sentence(promise = 9, under = Sentences.TERMS, says = "ELEMENTS (12 at most) of degrees 0 .. 12.")
    static void p09_aboveDegree12ThereIsNothing() {
        SquareTower x = States.ofElements(12, 0, 11);
        Check.due("act(1, 0, 0)", x.act(1, 0, 0), 0);
        Check.due("act(12, 0, 0)", x.act(12, 0, 0), 0);
        Check.due("act(12, 1, 1) up to degree 12", x.act(12, 1, 1), 0);
        Check.due("act(1, 2, 1) up to degree 12", x.act(1, 2, 1), 0);
        Check.due("act(2, 2, 1) to degree 13", x.act(2, 2, 1), BAD);
        Check.due("act(1, 0, 2) to degree 13", x.act(1, 0, 2), BAD);
    }

    // ---- promise 10: space

    @Sentence(promise = 10, says = "A SPACE by name, in place of what there is: how many ELEMENTS, by degrees.")
    static void p10_inPlaceOfWhatThereIs() {
        for (States.State before : States.ALL) {
            SquareTower x = States.made(before);
            int numbers = x.count(0);
            Check.due("PAIRS", x.space(PAIRS, 1, 3), 3);
            Check.due("count(2)", x.count(2), 3);
            for (int e = 0; e < 3; e++) {
                Check.due("by degrees", x.about(e, 0), 2 * e + 2);
                Check.due("S(1) makes nothing", x.about(e, 1), 0);
            }
            Check.due("no fourth", x.about(3, 0), BAD);
            Check.due("the CHAIN stays", x.count(0), numbers);
            Check.due("no DIFFERENCES", x.count(3), 0);
            Check.due("SOUND", x.fault(0), NONE);
        }
    }

    @Sentence(promise = 10, says = "A SPACE by name")
    static void p10_badIs_noSuchName() {
        SquareTower y = new SquareTower();
        Check.due("POINT", y.space(POINT, 1, 3), 1);
        Check.due("LINES", y.space(LINES, 1, 3), 3);
        Check.due("PAIRS", y.space(PAIRS, 1, 3), 3);
        for (int name : Numbers.outside(0, 2)) {
            Refused.badAnywhere(Numbers.call("space", name, 1, 3), x -> x.space(name, 1, 3));
            Refused.bad(States::some, Numbers.call("space", name, 0, 0), x -> x.space(name, 0, 0));
        }
    }

    @Sentence(promise = 10, says = "BAD: POINT: n 0 .. 12")
    static void p10_badIs_pointOutside0To12() {
        for (int n : Numbers.from(0, 12)) {
            SquareTower x = States.made(States::some);
            Check.due(Numbers.call("space", POINT, 0, n), x.space(POINT, 0, n), 1);
            Check.due("its degree", x.about(0, 0), n);
            for (int i = 1; i <= 12; i++) {
                Check.due(Numbers.call("about", 0, i), x.about(0, i), 0);
            }
            Check.due("no other", x.about(1, 0), BAD);
        }
        for (int n : Numbers.outside(0, 12)) {
            Refused.badAnywhere(Numbers.call("space", POINT, 0, n), x -> x.space(POINT, 0, n));
            Refused.bad(States::some, Numbers.call("space", POINT, n, n), x -> x.space(POINT, n, n));
        }
    }

    @Sentence(promise = 10, says = "(m is not looked at);")
    static void p10_pointDoesNotLookAt_m() {
        for (int m : Numbers.outside(1, 0)) {
            SquareTower x = States.made(States::unsound);
            Check.due(Numbers.call("space", POINT, m, 12), x.space(POINT, m, 12), 1);
            Check.due("its degree", x.about(0, 0), 12);
            Check.due(Numbers.call("space", POINT, m, 0), x.space(POINT, m, 0), 1);
            Check.due("its degree", x.about(0, 0), 0);
        }
    }

    @Sentence(promise = 10, says = "LINES: m 1 .. n, n 12 at most;")
    static void p10_badIs_linesOutside1To12() {
        taken(LINES, 1, 12);
        for (int m : Numbers.outside(1, 5)) {
            Refused.badAnywhere(Numbers.call("space", LINES, m, 5), x -> x.space(LINES, m, 5));
        }
        for (int n : Numbers.outside(5, 12)) {
            Refused.badAnywhere(Numbers.call("space", LINES, 5, n), x -> x.space(LINES, 5, n));
        }
        for (int n : Numbers.outside(1, 12)) {
            Refused.bad(States::some, Numbers.call("space", LINES, n, n), x -> x.space(LINES, n, n));
        }
    }

    @Sentence(promise = 10, says = "PAIRS: m 0 .. n, n 6 at most;")
    static void p10_badIs_pairsOutside0To6() {
        taken(PAIRS, 0, 6);
        for (int m : Numbers.outside(0, 3)) {
            Refused.badAnywhere(Numbers.call("space", PAIRS, m, 3), x -> x.space(PAIRS, m, 3));
        }
        for (int n : Numbers.outside(3, 6)) {
            Refused.badAnywhere(Numbers.call("space", PAIRS, 3, n), x -> x.space(PAIRS, 3, n));
        }
        for (int n : Numbers.outside(0, 6)) {
            Refused.bad(States::some, Numbers.call("space", PAIRS, n, n), x -> x.space(PAIRS, n, n));
        }
    }

    /** Each m and n from ahead of the least to behind the most, and far ones whose difference or double wraps. */
    private static void taken(int name, int least, int most) {
        for (int m = least - 2; m <= most + 2; m++) {
            for (int n = least - 2; n <= most + 2; n++) {
                boolean fits = m >= least && m <= n && n <= most;
                SquareTower x = States.made(States::some);
                Check.due(Numbers.call("space", name, m, n), x.space(name, m, n), fits ? n - m + 1 : BAD);
                Check.due("count(2) then", x.count(2), fits ? n - m + 1 : 6);
                Check.due("count(3) then", x.count(3), fits ? 0 : 1);
            }
        }
        int[][] far = {{Numbers.LEAST, Numbers.GREATEST}, {Numbers.GREATEST, Numbers.LEAST}, {Numbers.LEAST, most},
            {1 << 30, (1 << 30) + 3}, {-(1 << 30), -(1 << 30) + 3}, {Numbers.LEAST, Numbers.LEAST + 3},
            {Numbers.GREATEST - 3, Numbers.GREATEST}, {least, Numbers.GREATEST}, {Numbers.LEAST, Numbers.LEAST}};
        for (int[] call : far) {
            Refused.bad(States::some, Numbers.call("space", name, call[0], call[1]),
                    x -> x.space(name, call[0], call[1]));
        }
    }

    @Sentence(promise = 10, says = "above 12 ELEMENTS none.")
    static void p10_elevenAndTwelveElements() {
        SquareTower x = States.made(States::fullSpace);
        Check.due("LINES 1 .. 11", x.space(LINES, 1, 11), 11);
        Check.due("one more", x.element(0), 11);
        Check.due("LINES 1 .. 12", x.space(LINES, 1, 12), 12);
        Check.due("one more", x.element(0), FULL);
        Refused.bad(States::fullSpace, "LINES 1 .. 13", y -> y.space(LINES, 1, 13));
        Refused.bad(States::fullSpace, "LINES 2 .. 13, twelve of them", y -> y.space(LINES, 2, 13));
        Refused.bad(States::fullSpace, "LINES 0 .. 11, twelve of them", y -> y.space(LINES, 0, 11));
        Refused.bad(States::fullSpace, "LINES 0 .. 12, thirteen of them", y -> y.space(LINES, 0, 12));
    }

    // ---- promise 11: does

    @Sentence(promise = 11, says = "What the CHAIN makes of an ELEMENT, as bits.")
    static void p11_emptyAndFullChains() {
        SquareTower x = States.ofElements(DEGREES);
        for (int e = 0; e < 12; e++) {
            Check.due("the empty CHAIN, " + Numbers.call("does", e), x.does(e), 1 << e);
        }
        States.chain(x, 0, 0, 0, 0, 0, 0);
        for (int e = 0; e < 12; e++) {
            Check.due("six times S(0), " + Numbers.call("does", e), x.does(e), 1 << e);
        }
        SquareTower six = States.ofChain(1, 1, 1, 1, 1, 1);
        States.elements(six, 0, 1, 2, 3, 4, 5, 6, 7);
        for (int e = 0; e < 7; e++) {
            six.act(1, e, 1 << (e + 1));
        }
        Check.due("six times S(1), though THE RULE fails", six.does(0), 1 << 6);
        Check.due("to the last one", six.does(1), 1 << 7);
        Check.due("beyond the last one", six.does(2), 0);
    }

    @Sentence(promise = 11, says = "BAD.")
    static void p11_badIs_noSuchElement() {
        Check.due("the last of six", States.made(States::some).does(5), 0);
        Check.due("the last of twelve", States.made(States::fullSpace).does(11), 0);
        SquareTower empty = States.ofElements(DEGREES);
        Check.due("the last of twelve by the empty CHAIN", empty.does(11), 1 << 11);
        for (int e : Numbers.outside(0, 5)) {
            Refused.bad(States::some, Numbers.call("does", e), x -> x.does(e));
        }
        for (int e : Numbers.outside(0, 11)) {
            Refused.badAnywhere(Numbers.call("does", e), x -> x.does(e));
        }
        Refused.bad(States::nothing, "does(0) without ELEMENTS", x -> x.does(0));
    }

    // ---- promise 12: about

    @Sentence(promise = 12, says = "Of an ELEMENT: 0 its degree, 1 .. 12 what S(1) .. S(12) make of it.")
    static void p12_0To12() {
        SquareTower x = States.ofElements(0, 1, 2, 3, 4, 5, 6, 7, 8, 9, 10, 12);
        for (int i = 1; i <= 12; i++) {
            x.act(i, 0, i < 11 ? 1 << i : i == 12 ? 1 << 11 : 0);
        }
        Check.due("about(0, 0)", x.about(0, 0), 0);
        Check.due("about(11, 0)", x.about(11, 0), 12);
        for (int i = 1; i <= 12; i++) {
            Check.due(Numbers.call("about", 0, i), x.about(0, i), i < 11 ? 1 << i : i == 12 ? 1 << 11 : 0);
            Check.due(Numbers.call("about", 11, i), x.about(11, i), 0);
        }
    }

    @Sentence(promise = 12, says = "BAD.")
    static void p12_badIs_whatOutside0To12() {
        for (int what : Numbers.from(0, 12)) {
            Check.due("taken", States.ofElements(3).about(0, what), what == 0 ? 3 : 0);
        }
        for (int what : Numbers.outside(0, 12)) {
            Refused.badAnywhere(Numbers.call("about", 0, what), x -> x.about(0, what));
            Refused.bad(States::some, Numbers.call("about", 5, what), x -> x.about(5, what));
        }
    }

    @Sentence(promise = 12, under = Sentences.TERMS, says = "there is no such thing")
    static void p12_badIs_noSuchElement() {
        Check.due("the last of six", States.made(States::some).about(5, 0), 2);
        Check.due("the last of twelve", States.made(States::fullSpace).about(11, 0), 1);
        for (int e : Numbers.outside(0, 5)) {
            Refused.bad(States::some, Numbers.call("about", e, 0), x -> x.about(e, 0));
            Refused.bad(States::some, Numbers.call("about", e, 12), x -> x.about(e, 12));
        }
        for (int e : Numbers.outside(0, 11)) {
            Refused.badAnywhere(Numbers.call("about", e, 1), x -> x.about(e, 1));
        }
        // Thirteen times this number wraps around to 4.
        Refused.bad(States::some, "about(330382100, -4)", x -> x.about(330382100, -4));
        Refused.bad(States::some, "about(330382100, 0)", x -> x.about(330382100, 0));
    }

    // ---- promise 13: fault

    private static void faultIs(String where, SquareTower x, int a, int b, int element) {
        Check.due(where + ", fault(0)", x.fault(0), a);
        Check.due(where + ", fault(1)", x.fault(1), b);
        Check.due(where + ", fault(2)", x.fault(2), element);
    }

    @Sentence(promise = 13, says = "Where THE RULE fails first, by a, then b, then ELEMENTS: 0 a, 1 b, 2 the ELEMENT;")
    static void p13_firstBy_a_then_b_thenElements() {
        SquareTower x = States.ofElements(0, 6, 0, 5, 0, 3, 0, 3);
        x.act(6, 0, 2);
        faultIs("S(6) of ELEMENT 0", x, 2, 4, 0);
        x.act(5, 2, 8);
        faultIs("a lesser a of a later ELEMENT", x, 1, 4, 2);
        x.act(3, 6, 128);
        faultIs("a lesser b of a later ELEMENT", x, 1, 2, 6);
        x.act(3, 4, 32);
        faultIs("a lesser ELEMENT", x, 1, 2, 4);
        x.act(3, 4, 0);
        faultIs("without it", x, 1, 2, 6);
        x.act(3, 6, 0);
        faultIs("without that", x, 1, 4, 2);
        x.act(5, 2, 0);
        faultIs("without that, too", x, 2, 4, 0);
        x.act(6, 0, 0);
        faultIs("without all", x, NONE, NONE, NONE);
    }

    @Sentence(promise = 13, says = "by a, then b, then ELEMENTS")
    static void p13_firstAndLastElements() {
        SquareTower x = new SquareTower();
        States.elements(x, 0, 1, 2, 3, 3, 3, 3, 3, 4, 5, 9, 12);
        x.act(3, 9, 0);
        x.act(3, 10, 1 << 11);
        faultIs("up to degree 12, of the eleventh", x, 1, 2, 10);
        x.act(3, 0, 1 << 7);
        faultIs("of the first", x, 1, 2, 0);
        SquareTower far = States.ofElements(12, 0);
        far.act(12, 1, 1);
        faultIs("from degree 0 to 12", far, 4, 8, 1);
    }

    @Sentence(promise = 13, says = "NONE: the SPACE is SOUND.")
    static void p13_noneIs_sound() {
        faultIs("no ELEMENTS", new SquareTower(), NONE, NONE, NONE);
        faultIs("twelve ELEMENTS without acts", States.ofElements(DEGREES), NONE, NONE, NONE);
        SquareTower x = States.made(States::unsound);
        faultIs("S(1) S(1)", x, 1, 1, 0);
        Check.due("live(0, 0)", x.live(0, 0), STATE);
        x.act(1, 1, 0);
        faultIs("S(1) alone", x, NONE, NONE, NONE);
        Check.due("live(0, 0)", x.live(0, 0), 1);
        x.act(1, 1, 4);
        faultIs("S(1) S(1) again", x, 1, 1, 0);
        x.empty();
        faultIs("emptied", x, NONE, NONE, NONE);
        x = States.made(States::unsound);
        x.space(PAIRS, 0, 6);
        faultIs("PAIRS in place of it", x, NONE, NONE, NONE);
    }

    @Sentence(promise = 13, says = "BAD.")
    static void p13_badIs_whatOutside0To2() {
        faultIs("0 .. 2 are taken", States.made(States::unsound), 1, 1, 0);
        for (int what : Numbers.outside(0, 2)) {
            Refused.badAnywhere(Numbers.call("fault", what), x -> x.fault(what));
        }
    }
}
