/** Every promise by runs of calls, chosen and by dice: the class must answer as the model does. */
public final class ModelTest {
    public static void main(String[] args) {
        everyShortChain();
        longChains();
        namedSpaces();
        recipes();
        brokenRecipes();
        anyCalls();
        Check.finish("ModelTest");
    }

    private static void everyShortChain() {
        Both both = new Both("short chains");
        for (int a = 0; a <= 14; a++) {
            for (int b = 0; a + b <= 14; b++) {
                for (int c = 0; a + b + c <= 14; c++) {
                    both = new Both("chain " + a + " " + b + " " + c);
                    both.square(a);
                    both.square(b);
                    both.square(c);
                    both.askSums();
                }
            }
        }
    }

    private static void longChains() {
        for (int seed = 0; seed < 300; seed++) {
            Dice dice = new Dice(seed);
            Both both = new Both("long chain " + seed);
            for (int k = 0; k < 7; k++) {
                both.square(dice.below(dice.once(2) ? 3 : 6));
            }
            both.askSums();
        }
    }

    private static void namedSpaces() {
        for (int name = -1; name <= 3; name++) {
            for (int m = -1; m <= 13; m++) {
                for (int n = -1; n <= 13; n++) {
                    Both both = new Both("space " + name + " " + m + " " + n);
                    int size = both.space(name, m, n);
                    both.askSpace();
                    if (size > 0 && (m + n) % 3 == 0) {
                        both.askTower();
                    }
                }
            }
        }
    }

    private static void recipes() {
        for (int seed = 0; seed < 250; seed++) {
            Dice dice = new Dice(1000 + seed);
            Both both = new Both("recipe " + seed);
            Recipe.chosen(dice).tell(both);
            Check.due("recipe " + seed + " is sound", both.fault(0), Model.NONE);
            both.askSpace();
            both.askTower();
            for (int k = 0; k < 4; k++) {
                both.tellDifferences(k == 3 ? dice.from(2, 4) : k + 2, dice);
                both.askPages();
            }
            both.act(1, 0, 0);
            both.count(3);
            both.askPages();
        }
    }

    /** One act more or less: mostly a fault, sometimes another SOUND SPACE. */
    private static void brokenRecipes() {
        for (int seed = 0; seed < 300; seed++) {
            Dice dice = new Dice(2000 + seed);
            Both both = new Both("broken recipe " + seed);
            Recipe recipe = Recipe.chosen(dice);
            recipe.tell(both);
            for (int k = 0; k < 5; k++) {
                int e = dice.below(recipe.degrees.size());
                int f = dice.below(recipe.degrees.size());
                both.act(recipe.degrees.get(f) - recipe.degrees.get(e), e, 1 << f);
                both.askSpace();
                both.live(dice.below(6), dice.below(15));
                both.joins(dice.below(4), dice.below(5), dice.below(10));
                both.balance(dice.below(15));
                both.page(2, dice.below(6), dice.below(15));
                both.differ(dice.from(2, 4), dice.below(3), dice.below(10), 1);
            }
        }
    }

    private static void anyCalls() {
        for (int seed = 0; seed < 400; seed++) {
            Dice dice = new Dice(3000 + seed);
            Both both = new Both("any calls " + seed);
            if (dice.once(2)) {
                Recipe.chosen(dice).tell(both);
            }
            for (int k = 0; k < 120; k++) {
                anyCall(both, dice);
            }
        }
    }

    private static int odd(Dice dice, int least, int most) {
        if (dice.once(40)) {
            return new int[] {Integer.MIN_VALUE, Integer.MAX_VALUE, -1, 31, 32, 64}[dice.below(6)];
        }
        return dice.from(least - 1, most + 1);
    }

    private static void anyCall(Both both, Dice dice) {
        switch (dice.below(24)) {
            case 0: case 1: both.square(odd(dice, 0, 5)); break;
            case 2: both.clear(); break;
            case 3: both.sum(odd(dice, 0, 1)); break;
            case 4: both.term(odd(dice, 0, 1), odd(dice, 0, 2), odd(dice, 0, 3)); break;
            case 5: both.many(odd(dice, 0, 14)); break;
            case 6: if (dice.once(3)) { both.empty(); } break;
            case 7: if (dice.once(3)) { both.element(odd(dice, 0, 12)); } break;
            case 8: both.act(odd(dice, 1, 12), odd(dice, 0, 4), odd(dice, 0, 15)); break;
            case 9: both.act(odd(dice, 1, 2), odd(dice, 0, 3), 1 << dice.below(5)); break;
            case 10: if (dice.once(3)) { both.space(odd(dice, 0, 2), odd(dice, 0, 5), odd(dice, 3, 12)); } break;
            case 11: both.does(odd(dice, 0, 5)); break;
            case 12: both.about(odd(dice, 0, 5), odd(dice, 0, 12)); break;
            case 13: both.fault(odd(dice, 0, 2)); break;
            case 14: case 15: both.live(odd(dice, 0, 5), odd(dice, 0, 14)); break;
            case 16: case 17: both.joins(odd(dice, 0, 3), odd(dice, 0, 4), odd(dice, 0, 10)); break;
            case 18: both.balance(odd(dice, 0, 14)); break;
            case 19: case 20: both.differ(odd(dice, 2, 4), odd(dice, 0, 3), odd(dice, 0, 13), odd(dice, 1, 2)); break;
            case 21: case 22: both.page(odd(dice, 2, 5), odd(dice, 0, 5), odd(dice, 0, 14)); break;
            default: both.count(odd(dice, 0, 3)); break;
        }
    }
}
