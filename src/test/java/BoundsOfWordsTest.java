/** Promises 1 to 6, sentence by sentence: the last number that is taken, the first that is refused. */
public final class BoundsOfWordsTest {
    private static final int BAD = SquareTower.BAD, FULL = SquareTower.FULL, NONE = SquareTower.NONE;

    public static void main(String[] args) {
        Sentences.run(BoundsOfWordsTest.class);
    }

    // ---- promise 1: a new object

    @Sentence(promise = 1, says = "An empty CHAIN")
    static void p01_anEmptyChain() {
        SquareTower x = new SquareTower();
        Check.due("count(0)", x.count(0), 0);
        Check.due("count(1)", x.count(1), 0);
        Check.due("sum(0)", x.sum(0), 1);
        Check.due("term(0, 0, 0)", x.term(0, 0, 0), NONE);
        Check.due("clear()", x.clear(), 0);
        Check.due("S(0) is a number, too", x.square(0), 1);
        Check.due("count(0)", x.count(0), 1);
    }

    @Sentence(promise = 1, says = "no ELEMENTS")
    static void p01_noElements() {
        SquareTower x = new SquareTower();
        Check.due("count(2)", x.count(2), 0);
        Check.due("about(0, 0)", x.about(0, 0), BAD);
        Check.due("does(0)", x.does(0), BAD);
        Check.due("act(1, 0, 0)", x.act(1, 0, 0), BAD);
        Check.due("empty()", x.empty(), 0);
        Check.due("element(0)", x.element(0), 0);
        Check.due("about(0, 0) then", x.about(0, 0), 0);
        Check.due("does(0) then", x.does(0), 1);
        Check.due("about(1, 0) then", x.about(1, 0), BAD);
    }

    @Sentence(promise = 1, under = Sentences.TERMS, says = "Ranks are 0 at first")
    static void p01_ranksAre0AtFirst() {
        Check.due("count(3)", new SquareTower().count(3), 0);
        SquareTower x = States.ofElements(0, 1);
        Check.due("count(3) with ELEMENTS", x.count(3), 0);
        Check.due("page(3, 0, 1)", x.page(3, 0, 1), 1);
        Check.due("differ(2, 0, 1, 1)", x.differ(2, 0, 1, 1), 1);
        Check.due("count(3) then", x.count(3), 1);
    }

    // ---- promise 2: square

    @Sentence(promise = 2, says = "S(i) comes behind the CHAIN: how many numbers it has.")
    static void p02_howManyNumbersItHas() {
        SquareTower x = new SquareTower();
        int[] numbers = {5, 0, 1, 2, 0, 6};
        int degree = 0;
        for (int k = 0; k < numbers.length; k++) {
            degree += numbers[k];
            Check.due("square(" + numbers[k] + ")", x.square(numbers[k]), k + 1);
            Check.due("count(0)", x.count(0), k + 1);
            Check.due("count(1)", x.count(1), degree);
        }
        SquareTower behind = States.ofChain(4, 1);
        Check.due("the last one, number 1", behind.term(0, 0, 1), 1);
        Check.due("sum(0) of S(4) S(1)", behind.sum(0), 1);
        Check.due("sum(0) of S(1) S(4)", States.ofChain(1, 4).sum(0), 1);
        Check.due("S(1) S(4) is S(5)", States.ofChain(1, 4).term(0, 0, 0), 5);
    }

    @Sentence(promise = 2, says = "BAD: i 0 .. 14")
    static void p02_badIs_i_outside0To14() {
        for (int i : Numbers.from(0, 14)) {
            SquareTower x = new SquareTower();
            Check.due("square(" + i + ")", x.square(i), 1);
            Check.due("its degree", x.count(1), i);
        }
        for (int i : Numbers.outside(0, 14)) {
            Refused.badAnywhere(Numbers.call("square", i), x -> x.square(i));
        }
    }

    @Sentence(promise = 2, says = "its degree would be above 14")
    static void p02_badIs_degreeAbove14() {
        for (int degree : Numbers.from(1, 14)) {
            SquareTower last = States.ofChain(degree);
            Check.due(degree + ", square up to 14", last.square(14 - degree), 2);
            Check.due("count(1)", last.count(1), 14);
            Check.due("square(1) at 14", last.square(1), BAD);
            Check.due("square(0) at 14", last.square(0), 3);
            Refused.bad(x -> x.square(degree), degree + ", square up to 15", x -> x.square(15 - degree));
            Refused.bad(x -> x.square(degree), degree + ", square(14)", x -> x.square(14));
            for (int far : new int[] {Numbers.GREATEST, Numbers.GREATEST - degree, Numbers.GREATEST - degree + 1, -1}) {
                Refused.bad(x -> x.square(degree), degree + ", square(" + far + ")", x -> x.square(far));
            }
        }
        Refused.bad(x -> States.chain(x, 1, 2, 3, 4, 4), "14 in five numbers, square(1)", x -> x.square(1));
        Check.due("14 in five numbers, square(0)", States.ofChain(1, 2, 3, 4, 4).square(0), 6);
    }

    @Sentence(promise = 2, says = "FULL: 6.")
    static void p02_fullIs_6() {
        int[][] fives = {{0, 0, 0, 0, 0}, {1, 1, 1, 1, 1}, {2, 0, 0, 1, 0}};
        for (int[] five : fives) {
            for (int i : new int[] {0, 1, 8}) {
                Check.due("the sixth", States.ofChain(five).square(i), 6);
                Refused.answers(FULL, x -> {
                    States.chain(x, five);
                    x.square(0);
                }, "the seventh, square(" + i + ")", x -> x.square(i));
            }
        }
        SquareTower again = States.ofChain(0, 0, 0, 0, 0, 0);
        Check.due("clear()", again.clear(), 6);
        Check.due("the first again", again.square(0), 1);
    }

    @Sentence(promise = 2, under = Sentences.TERMS, says = Sentences.REFUSED)
    static void p02_badIsAheadOfFull() {
        States.State full = x -> States.chain(x, 2, 2, 2, 2, 2, 2);
        Refused.answers(FULL, full, "six numbers of degree 12, square(2)", x -> x.square(2));
        Refused.bad(full, "six numbers of degree 12, square(3)", x -> x.square(3));
        Refused.bad(full, "six numbers of degree 12, square(-1)", x -> x.square(-1));
        Refused.bad(full, "six numbers of degree 12, square(15)", x -> x.square(15));
        Refused.answers(FULL, x -> States.chain(x, 14, 0, 0, 0, 0, 0), "six of degree 14, square(0)", x -> x.square(0));
        Refused.bad(x -> States.chain(x, 14, 0, 0, 0, 0, 0), "six of degree 14, square(1)", x -> x.square(1));
    }

    // ---- promise 3: clear

    @Sentence(promise = 3, says = "The CHAIN is empty: how many numbers it had.")
    static void p03_howManyNumbersItHad() {
        for (int n : Numbers.from(0, 6)) {
            SquareTower x = new SquareTower();
            for (int k = 0; k < n; k++) {
                x.square(2);
            }
            Check.due("clear() of " + n, x.clear(), n);
            Check.due("count(0)", x.count(0), 0);
            Check.due("count(1)", x.count(1), 0);
            Check.due("clear() again", x.clear(), 0);
            Check.due("square(14)", x.square(14), 1);
        }
        SquareTower refused = States.ofChain(14, 0);
        refused.square(1);
        refused.square(15);
        Check.due("what was refused is not there", refused.clear(), 2);
    }

    @Sentence(promise = 3, says = "The CHAIN is empty")
    static void p03_onlyTheChain() {
        SquareTower x = States.made(States::some);
        Check.due("clear()", x.clear(), 2);
        Check.due("count(2)", x.count(2), 6);
        Check.due("count(3)", x.count(3), 1);
        Check.due("about(0, 1)", x.about(0, 1), 8);
        Check.due("does(0) is the ELEMENT itself", x.does(0), 1);
    }

    // ---- promise 4: sum

    @Sentence(promise = 4, says = "How many ALLOWED CHAINS (what = 0), ROWS (1), the SUM has that the CHAIN is.")
    static void p04_noneOneAndMany() {
        int[][] chains = {{}, {0}, {1, 1}, {14}, {2, 4}, {6, 6}, {4, 2, 1}, {8, 4, 2}, {2, 2, 2, 2, 2, 2},
            {1, 1, 1, 1, 1, 1}};
        int[] allowed = {1, 1, 0, 1, 2, 3, 1, 1, 0, 0};
        int[] rows = {1, 1, 0, 1, 2, 2, 4, 9, 0, 0};
        for (int k = 0; k < chains.length; k++) {
            SquareTower x = States.ofChain(chains[k]);
            Check.due(Numbers.call("sum(0) of ", chains[k]), x.sum(0), allowed[k]);
            Check.due(Numbers.call("sum(1) of ", chains[k]), x.sum(1), rows[k]);
        }
    }

    @Sentence(promise = 4, says = "BAD.")
    static void p04_badIs_whatOutside0To1() {
        Check.due("sum(0)", States.ofChain(6, 6).sum(0), 3);
        Check.due("sum(1)", States.ofChain(6, 6).sum(1), 2);
        for (int what : Numbers.outside(0, 1)) {
            Refused.badAnywhere(Numbers.call("sum", what), x -> x.sum(what));
        }
    }

    // ---- promise 5: term

    @Sentence(promise = 5, says = "Number j of the i-th of these ALLOWED CHAINS (NONE: it has not so many)")
    static void p05_noneIs_notSoManyNumbers() {
        int[][] chains = {{}, {14}, {4, 2}, {4, 2, 1}, {9, 4, 1}};
        for (int[] chain : chains) {
            SquareTower x = States.ofChain(chain);
            for (int j = 0; j < chain.length; j++) {
                Check.due(Numbers.call("term", 0, 0, j), x.term(0, 0, j), chain[j]);
            }
            for (int j : new int[] {chain.length, chain.length + 1, 3, 4, 5, 31, 32, 64, 1 << 30, Numbers.GREATEST}) {
                Check.due(Numbers.call("term", 0, 0, j), x.term(0, 0, j), NONE);
            }
        }
        SquareTower three = States.ofChain(6, 6);
        int[][] due = {{9, 3, NONE}, {10, 2, NONE}, {11, 1, NONE}};
        for (int i = 0; i < due.length; i++) {
            for (int j = 0; j < 3; j++) {
                Check.due("S(6) S(6), " + Numbers.call("term", 0, i, j), three.term(0, i, j), due[i][j]);
            }
        }
    }

    @Sentence(promise = 5, says = "or ROWS (j 0 .. 3).")
    static void p05_rowsHaveNumbers0To3() {
        SquareTower x = States.ofChain(8, 4, 2);
        int[][] due = {{0, 0, 2, 0}, {1, 2, 1, 0}, {2, 4, 0, 0}, {4, 1, 1, 0}, {5, 3, 0, 0}, {7, 0, 1, 0},
            {8, 2, 0, 0}, {11, 1, 0, 0}, {14, 0, 0, 0}};
        Check.due("sum(1)", x.sum(1), due.length);
        for (int j = 0; j < 4; j++) {
            Check.due("the first, " + Numbers.call("term", 1, 0, j), x.term(1, 0, j), due[0][j]);
            Check.due("the last, " + Numbers.call("term", 1, 8, j), x.term(1, 8, j), due[8][j]);
            Check.due("the empty CHAIN, " + Numbers.call("term", 1, 0, j), new SquareTower().term(1, 0, j), 0);
        }
    }

    @Sentence(promise = 5, says = "BAD: what")
    static void p05_badIs_whatOutside0To1() {
        SquareTower y = States.ofChain(4, 2);
        Check.due("term(0, 0, 0)", y.term(0, 0, 0), 4);
        Check.due("term(1, 0, 0)", y.term(1, 0, 0), 0);
        for (int what : Numbers.outside(0, 1)) {
            Refused.badAnywhere(Numbers.call("term", what, 0, 0), x -> x.term(what, 0, 0));
        }
    }

    @Sentence(promise = 5, says = "j below 0")
    static void p05_badIs_jBelow0() {
        for (int what : Numbers.from(0, 1)) {
            Check.due(Numbers.call("term", what, 0, 0), States.ofChain(14).term(what, 0, 0), 14);
            for (int j : new int[] {-1, -2, -3, -4, -32, -64, -(1 << 30), Numbers.LEAST + 1, Numbers.LEAST}) {
                Refused.bad(x -> x.square(14), Numbers.call("term", what, 0, j), x -> x.term(what, 0, j));
                Refused.badAnywhere(Numbers.call("term", what, 0, j), x -> x.term(what, 0, j));
            }
        }
    }

    @Sentence(promise = 5, says = "of ROWS above 3")
    static void p05_badIs_jOfRowsAbove3() {
        Check.due("term(1, 0, 3)", States.ofChain(14).term(1, 0, 3), 0);
        Check.due("term(0, 0, 4): of CHAINS it is NONE", States.ofChain(14).term(0, 0, 4), NONE);
        for (int j : Numbers.outside(0, 3)) {
            Refused.badAnywhere(Numbers.call("term", 1, 0, j), x -> x.term(1, 0, j));
        }
    }

    @Sentence(promise = 5, says = "there is no i-th one.")
    static void p05_badIs_noSuchTerm() {
        for (int a : Numbers.from(0, 14)) {
            for (int b = 0; a + b <= 14; b++) {
                SquareTower x = States.ofChain(a, b);
                for (int what = 0; what < 2; what++) {
                    int terms = x.sum(what);
                    Check.holds("the last one is there", terms == 0 || x.term(what, terms - 1, 0) != BAD);
                    Check.due("one behind the last", x.term(what, terms, 0), BAD);
                    Check.due("one ahead of the first", x.term(what, -1, 0), BAD);
                }
            }
        }
        for (int what = 0; what < 2; what++) {
            int asked = what;
            Refused.bad(x -> States.chain(x, 1, 1), "nothing, the first one", x -> x.term(asked, 0, 0));
            Check.holds("three, the last one", States.ofChain(6, 6).term(asked, 2 - asked, 0) > 0);
            for (int i : Numbers.outside(0, 2 - asked)) {
                Refused.bad(x -> States.chain(x, 6, 6), Numbers.call("term", asked, i, 0), x -> x.term(asked, i, 0));
            }
        }
    }

    // ---- promise 6: many

    @Sentence(promise = 6, says = "How many ALLOWED CHAINS there are of a degree (0 .. 14).")
    static void p06_degrees0To14() {
        int[] due = {1, 1, 1, 2, 2, 2, 3, 4, 4, 5, 6, 6, 7, 8, 9};
        for (States.State state : States.ALL) {
            SquareTower x = States.made(state);
            for (int n = 0; n <= 14; n++) {
                Check.due("many(" + n + ")", x.many(n), due[n]);
            }
        }
    }

    @Sentence(promise = 6, says = "BAD.")
    static void p06_badIs_degreeOutside0To14() {
        for (int degree : Numbers.outside(0, 14)) {
            Refused.badAnywhere(Numbers.call("many", degree), x -> x.many(degree));
        }
    }
}
