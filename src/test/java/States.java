/** What objects have been brought to before a call that matters. */
final class States {
    /** Sets up a new object. */
    interface State {
        void make(SquareTower x);
    }

    /** One call and its answer. */
    interface Call {
        int ask(SquareTower x);
    }

    private States() {
    }

    static SquareTower made(State state) {
        SquareTower x = new SquareTower();
        state.make(x);
        return x;
    }

    static void nothing(SquareTower x) {
    }

    static void chain(SquareTower x, int... numbers) {
        for (int i : numbers) {
            x.square(i);
        }
    }

    static SquareTower ofChain(int... numbers) {
        return made(x -> chain(x, numbers));
    }

    static SquareTower ofElements(int... degrees) {
        return made(x -> elements(x, degrees));
    }

    static void elements(SquareTower x, int... degrees) {
        for (int degree : degrees) {
            x.element(degree);
        }
    }

    /** Some of everything: the CHAIN S(4) S(2), six ELEMENTS, an act, and one DIFFERENCE, of length 2. */
    static void some(SquareTower x) {
        chain(x, 4, 2);
        elements(x, 0, 0, 0, 1, 1, 2);
        x.act(1, 0, 8);
        x.differ(2, 0, 1, 1);
    }

    /** As many numbers in the CHAIN as there may be, and a degree that leaves room. */
    static void fullChain(SquareTower x) {
        some(x);
        chain(x, 0, 1, 0, 2);
    }

    /** As many ELEMENTS as there may be, and one DIFFERENCE, of length 3. */
    static void fullSpace(SquareTower x) {
        some(x);
        elements(x, 0, 0, 0, 2, 12, 1);
        x.differ(3, 0, 1, 1);
    }

    /** THE RULE fails: S(1) S(1) makes something of the first ELEMENT. */
    static void unsound(SquareTower x) {
        chain(x, 2, 1);
        elements(x, 0, 1, 2, 1);
        x.act(1, 0, 2);
        x.act(1, 1, 4);
    }

    static final State[] ALL = {
        States::nothing, States::some, States::fullChain, States::fullSpace, States::unsound};
}
