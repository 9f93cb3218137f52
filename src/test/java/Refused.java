import java.util.ArrayList;
import java.util.List;

/**
 * Calls that are refused: what they answer, and that nothing has changed then. Two objects are brought to the same
 * state, one of them is asked the call, and from then on both must answer alike. As an object is used for 512 calls
 * at most, this is done for one part of the answers after the other, with new objects.
 */
final class Refused {
    private static final Part[] PARTS = {Refused::words, Refused::space, Refused::tower, Refused::chart};

    /** Asks an object further calls. */
    private interface Part {
        void ask(SquareTower x, Answers answers);
    }

    private static final class Answers {
        private final List<String> calls = new ArrayList<>();
        private final List<Integer> answers = new ArrayList<>();

        void add(int answer, String name, int... arguments) {
            calls.add(Numbers.call(name, arguments));
            answers.add(answer);
        }

        void compare(String refused, Answers due) {
            for (int k = 0; k < calls.size(); k++) {
                Check.due(refused + ", then " + calls.get(k), answers.get(k), due.answers.get(k));
            }
        }
    }

    private Refused() {
    }

    static void bad(States.State before, String call, States.Call refused) {
        answers(SquareTower.BAD, before, call, refused);
    }

    /** BAD in each of the states, also where the call would else be refused by STATE or FULL. */
    static void badAnywhere(String call, States.Call refused) {
        for (States.State before : States.ALL) {
            bad(before, call, refused);
        }
    }

    static void answers(int due, States.State before, String call, States.Call refused) {
        for (Part part : PARTS) {
            SquareTower x = States.made(before);
            SquareTower same = States.made(before);
            Check.due(call, refused.ask(x), due);
            Answers answers = new Answers();
            Answers dues = new Answers();
            part.ask(x, answers);
            part.ask(same, dues);
            answers.compare(call, dues);
        }
    }

    private static void words(SquareTower x, Answers a) {
        a.add(x.count(0), "count", 0);
        a.add(x.count(1), "count", 1);
        for (int what = 0; what < 2; what++) {
            a.add(x.sum(what), "sum", what);
            for (int i = 0; i < 4; i++) {
                for (int j = 0; j < 4; j++) {
                    a.add(x.term(what, i, j), "term", what, i, j);
                }
            }
        }
        a.add(x.square(1), "square", 1);
        a.add(x.square(0), "square", 0);
        a.add(x.count(1), "count", 1);
        a.add(x.clear(), "clear");
    }

    private static void space(SquareTower x, Answers a) {
        a.add(x.count(2), "count", 2);
        for (int e = 0; e < 12; e++) {
            for (int what = 0; what <= 12; what++) {
                a.add(x.about(e, what), "about", e, what);
            }
            a.add(x.does(e), "does", e);
        }
        for (int what = 0; what < 3; what++) {
            a.add(x.fault(what), "fault", what);
        }
        a.add(x.element(12), "element", 12);
        a.add(x.act(1, 0, 0), "act", 1, 0, 0);
        a.add(x.empty(), "empty");
    }

    private static void tower(SquareTower x, Answers a) {
        for (int t = 0; t <= 14; t++) {
            for (int s = 0; s <= 5; s++) {
                a.add(x.live(s, t), "live", s, t);
            }
            a.add(x.balance(t), "balance", t);
        }
        for (int i = 0; i <= 3; i++) {
            for (int s = 0; s <= 4; s++) {
                for (int t = 0; t + (1 << i) <= 14; t++) {
                    a.add(x.joins(i, s, t), "joins", i, s, t);
                }
            }
        }
    }

    private static void chart(SquareTower x, Answers a) {
        a.add(x.count(3), "count", 3);
        for (int r = 3; r <= 5; r++) {
            for (int s = 0; s <= 5; s++) {
                for (int t = 0; t <= 14; t++) {
                    a.add(x.page(r, s, t), "page", r, s, t);
                }
            }
        }
        for (int r = 2; r <= 4; r++) {
            for (int s = 0; s + r <= 5; s++) {
                for (int t = 1; t <= 5; t++) {
                    a.add(x.differ(r, s, t, 1), "differ", r, s, t, 1);
                }
            }
        }
        a.add(x.count(3), "count", 3);
    }
}
