/** The sentences of promises 6, 7, 14, 15 and 16, about single sets and claims, a test for each. */
public final class SetSentencesTest {
    public static void main(String[] args) {
        Sentences all = new Sentences();
        all.test("Promise 6", "The grounded set.", SetSentencesTest::grounded);
        all.test("Promise 7", "0 if the claim is in the grounded set", SetSentencesTest::labelIn);
        all.test("Promise 7", "1 if the grounded set attacks it", SetSentencesTest::labelAttacked);
        all.test("Promise 7", "2 otherwise", SetSentencesTest::labelOtherwise);
        all.test("Promise 7", "-1 if c is not good", SetSentencesTest::labelRefused);
        all.test("Promise 7", "-2 if it is out of play", SetSentencesTest::labelOutOfPlay);
        all.test("Promise 14", "The range of a set.", SetSentencesTest::range);
        all.test("Promise 14", "-2 if set is not in 0 .. 2^n - 1", SetSentencesTest::rangeRefused);
        all.test("Promise 14", "-3 if it contains a claim out of play", SetSentencesTest::rangeOutOfPlay);
        all.test("Promise 15", "The set of the claims in play that the set defends.", SetSentencesTest::defended);
        all.test("Promise 15", "-2 if set is not in 0 .. 2^n - 1", SetSentencesTest::defendedRefused);
        all.test("Promise 15", "-3 if it contains a claim out of play", SetSentencesTest::defendedOutOfPlay);
        all.test("Promise 16", "The greatest admissible set (by inclusion) that is part of every preferred set",
            SetSentencesTest::ideal);
        all.test("Promise 16", "-1 never occurs", SetSentencesTest::idealNeverRefused);
        all.test("Promise 16", "there is one that contains all others", SetSentencesTest::idealContainsOthers);
        all.end();
    }

    /** The last claim attacks the one before it, and so on down to 0: its head has the greatest number. */
    private static ArgSolver chainDown(int n) {
        ArgSolver x = new ArgSolver(n);
        for (int c = n - 1; c > 0; c--) {
            x.attack(c, c - 1, 1);
        }
        return x;
    }

    private static void grounded(Check check) {
        for (int n = Frames.LEAST; n <= Frames.MOST; n++) {
            int full = Frames.full(n);
            int odds = full - Frames.evens(n);
            check.due(n + " claims, no attacks: full", new ArgSolver(n).grounded(), full);
            check.due(n + " claims, chain", Frames.chain(n).grounded(), Frames.evens(n));
            check.due(n + " claims, chain down", chainDown(n).grounded(), n % 2 == 0 ? odds : Frames.evens(n));
            check.due(n + " claims, ring: empty", Frames.ring(n).grounded(), 0);
            check.due(n + " claims, self-attacks: empty", Frames.allAttackThemselves(n).grounded(), 0);
            check.due(n + " claims, all attack all: empty", Frames.allAttackAll(n).grounded(), 0);
            check.due(n + " claims, none in play", Frames.without(new ArgSolver(n), full).grounded(), 0);
            check.due(n + " claims, ring cut at 0", Frames.without(Frames.ring(n), 1).grounded(), odds);
            ArgSolver bitten = Frames.chain(n);
            bitten.attack(0, 0, 1);
            check.due(n + " claims, chain with a self-attack at its head", bitten.grounded(), 0);
        }
    }

    private static void labelIn(Check check) {
        for (int n = Frames.LEAST; n <= Frames.MOST; n++) {
            ArgSolver x = new ArgSolver(n);
            ArgSolver chain = Frames.chain(n);
            for (int c = 0; c < n; c++) {
                check.due(n + " claims, no attacks: label " + c, x.groundedLabel(c), 0);
                if (c % 2 == 0) {
                    check.due(n + " claims, chain: label " + c, chain.groundedLabel(c), 0);
                }
            }
        }
    }

    private static void labelAttacked(Check check) {
        for (int n = Frames.LEAST; n <= Frames.MOST; n++) {
            ArgSolver chain = Frames.chain(n);
            for (int c = 1; c < n; c += 2) {
                check.due(n + " claims, chain: label " + c, chain.groundedLabel(c), 1);
                chain.attack(c, c, 1);
                check.due(n + " claims, chain, self-attack: label " + c, chain.groundedLabel(c), 1);
            }
        }
    }

    private static void labelOtherwise(Check check) {
        for (int n = Frames.LEAST; n <= Frames.MOST; n++) {
            for (int c = 0; c < n; c++) {
                check.due(n + " claims, ring: label " + c, Frames.ring(n).groundedLabel(c), 2);
                check.due(n + " claims, all attack all: label " + c, Frames.allAttackAll(n).groundedLabel(c), 2);
                check.due(n + " claims, itself: label " + c, Frames.with(n, c, c).groundedLabel(c), 2);
            }
        }
        // 0 is grounded and attacks neither 1 nor 2, which attack each other.
        check.due("beside the grounded set", Frames.with(3, 1, 2, 2, 1).groundedLabel(1), 2);
        // 2 is attacked, but by no claim of the grounded set.
        check.due("attacked from outside the grounded set", Frames.with(3, 1, 1, 1, 2).groundedLabel(2), 2);
    }

    private static void labelRefused(Check check) {
        Frames.everyState((name, n, x) -> {
            for (int bad : Frames.badClaims(n)) {
                check.due(name + "label " + bad, x.groundedLabel(bad), -1);
            }
        });
    }

    private static void labelOutOfPlay(Check check) {
        Frames.everyState((name, n, x) -> {
            for (int c = 0; c < n; c++) {
                int before = x.play(c, 0);
                check.due(name + "label out of play " + c, x.groundedLabel(c), -2);
                x.play(c, 1);
                check.holds(name + "label in play again " + c, x.groundedLabel(c) >= 0);
                x.play(c, before);
            }
            Frames.without(x, Frames.full(n));
            for (int c = 0; c < n; c++) {
                check.due(name + "label with none in play " + c, x.groundedLabel(c), -2);
            }
        });
    }

    private static void range(Check check) {
        for (int n = Frames.LEAST; n <= Frames.MOST; n++) {
            int full = Frames.full(n);
            check.due(n + " claims, no attacks: empty", new ArgSolver(n).range(0), 0);
            check.due(n + " claims, no attacks: full", new ArgSolver(n).range(full), full);
            check.due(n + " claims, all attack all: empty", Frames.allAttackAll(n).range(0), 0);
            check.due(n + " claims, all attack all: full", Frames.allAttackAll(n).range(full), full);
            check.due(n + " claims, chain: the tail", Frames.chain(n).range(1 << (n - 1)), 1 << (n - 1));
            check.due(n + " claims, ring: the tail", Frames.ring(n).range(1 << (n - 1)), 1 << (n - 1) | 1);
            for (int c = 0; c < n; c++) {
                check.due(n + " claims, all attack all: " + c, Frames.allAttackAll(n).range(1 << c), full);
                check.due(n + " claims, itself: " + c, Frames.with(n, c, c).range(1 << c), 1 << c);
                ArgSolver x = Frames.without(Frames.allAttackAll(n), full - (1 << c));
                check.due(n + " claims, alone in play: " + c, x.range(1 << c), 1 << c);
            }
        }
    }

    private static void rangeRefused(Check check) {
        Frames.everyState((name, n, x) -> {
            for (int bad : Frames.badSets(n)) {
                check.due(name + "range " + bad, x.range(bad), -2);
            }
        });
    }

    private static void rangeOutOfPlay(Check check) {
        for (int n = Frames.LEAST; n <= Frames.MOST; n++) {
            for (int c = 0; c < n; c++) {
                ArgSolver x = Frames.without(new ArgSolver(n), 1 << c);
                for (int set = 0; set < 1 << n; set++) {
                    int want = (set >> c & 1) != 0 ? -3 : set;
                    check.due(n + " claims, " + c + " out of play: range " + set, x.range(set), want);
                }
            }
            ArgSolver none = Frames.without(new ArgSolver(n), Frames.full(n));
            for (int set = 0; set < 1 << n; set++) {
                check.due(n + " claims, none in play: range " + set, none.range(set), set == 0 ? 0 : -3);
            }
        }
    }

    private static void defended(Check check) {
        for (int n = Frames.LEAST; n <= Frames.MOST; n++) {
            int full = Frames.full(n);
            check.due(n + " claims, no attacks: by the empty set", new ArgSolver(n).defended(0), full);
            check.due(n + " claims, no attacks: by the full set", new ArgSolver(n).defended(full), full);
            check.due(n + " claims, chain: by the empty set", Frames.chain(n).defended(0), 1);
            check.due(n + " claims, chain: by the head", Frames.chain(n).defended(1), n > 2 ? 5 : 1);
            check.due(n + " claims, all attack all: by the empty set", Frames.allAttackAll(n).defended(0), 0);
            check.due(n + " claims, all attack all: by one", Frames.allAttackAll(n).defended(1), full);
            check.due(n + " claims, none in play", Frames.without(new ArgSolver(n), full).defended(0), 0);
            for (int c = 0; c < n; c++) {
                // Out of play, c neither attacks nor is defended.
                ArgSolver x = Frames.without(Frames.with(n, c, (c + 1) % n, (c + 1) % n, c), 1 << c);
                check.due(n + " claims, " + c + " out of play", x.defended(0), full - (1 << c));
            }
        }
    }

    private static void defendedRefused(Check check) {
        Frames.everyState((name, n, x) -> {
            for (int bad : Frames.badSets(n)) {
                check.due(name + "defended " + bad, x.defended(bad), -2);
            }
        });
    }

    private static void defendedOutOfPlay(Check check) {
        for (int n = Frames.LEAST; n <= Frames.MOST; n++) {
            for (int c = 0; c < n; c++) {
                ArgSolver x = Frames.without(new ArgSolver(n), 1 << c);
                for (int set = 0; set < 1 << n; set++) {
                    int want = (set >> c & 1) != 0 ? -3 : Frames.full(n) - (1 << c);
                    check.due(n + " claims, " + c + " out of play: defended " + set, x.defended(set), want);
                }
            }
            ArgSolver none = Frames.without(new ArgSolver(n), Frames.full(n));
            for (int set = 0; set < 1 << n; set++) {
                check.due(n + " claims, none in play: defended " + set, none.defended(set), set == 0 ? 0 : -3);
            }
        }
    }

    private static void ideal(Check check) {
        for (int n = Frames.LEAST; n <= Frames.MOST; n++) {
            int full = Frames.full(n);
            check.due(n + " claims, no attacks: full", new ArgSolver(n).ideal(), full);
            check.due(n + " claims, chain", Frames.chain(n).ideal(), Frames.evens(n));
            check.due(n + " claims, ring: empty", Frames.ring(n).ideal(), 0);
            check.due(n + " claims, self-attacks: empty", Frames.allAttackThemselves(n).ideal(), 0);
            check.due(n + " claims, none in play", Frames.without(new ArgSolver(n), full).ideal(), 0);
            // The last claim and 0 attack each other, but the last attacks itself too.
            ArgSolver x = Frames.with(n, 0, n - 1, n - 1, 0, n - 1, n - 1);
            check.due(n + " claims, beyond the grounded set", x.ideal(), full - (1 << (n - 1)));
        }
        // 3 is in every preferred set, but what defends it is not.
        ArgSolver floating = Frames.floating();
        check.due("part of every preferred set", floating.core(ArgSolver.PREFERRED), 8);
        check.due("but not admissible", floating.ideal(), 0);
    }

    private static void idealNeverRefused(Check check) {
        Frames.Use isASet = (name, n, x) -> check.holds(name + "ideal", x.ideal() >= 0 && x.range(x.ideal()) >= 0);
        Frames.everyState(isASet);
        Frames.everySmallFramework(isASet);
    }

    private static void idealContainsOthers(Check check) {
        Frames.Use containsOthers = (name, n, x) -> {
            int ideal = x.ideal();
            int core = x.core(ArgSolver.PREFERRED);
            check.due(name + "ideal is admissible", x.is(ArgSolver.ADMISSIBLE, ideal), 1);
            check.due(name + "ideal is part of every preferred set", ideal & ~core, 0);
            int count = x.count(ArgSolver.ADMISSIBLE);
            for (int i = 0; i < count; i++) {
                int set = x.nth(ArgSolver.ADMISSIBLE, i);
                check.holds(name + "ideal contains " + set, (set & ~core) != 0 || (set & ~ideal) == 0);
            }
        };
        Frames.everyState(containsOthers);
        Frames.everySmallFramework(containsOthers);
        // The one with the common part of all preferred sets not admissible itself.
        containsOthers.on("floating: ", 4, Frames.floating());
    }
}
