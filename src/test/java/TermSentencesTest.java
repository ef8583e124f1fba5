/** The sentences of "Terms" about claims, attacks and sets that name an edge, a test for each. */
public final class TermSentencesTest {
    private static final String TERMS = "Terms";

    public static void main(String[] args) {
        Sentences all = new Sentences();
        all.test(TERMS, "There are n CLAIMS, numbered 0 .. n-1.", TermSentencesTest::numbered);
        all.test(TERMS, "A claim may ATTACK another or itself", TermSentencesTest::anotherOrItself);
        all.test(TERMS, "no attacks at first", TermSentencesTest::noAttacksAtFirst);
        all.test(TERMS, "A SET of claims is written as the sum of 2^c over its members, 0 .. 2^n - 1.",
            TermSentencesTest::sumOfMembers);
        all.test(TERMS, "Some claims may be OUT OF PLAY", TermSentencesTest::someOutOfPlay);
        all.test(TERMS, "none is at first", TermSentencesTest::allInPlayAtFirst);
        all.test(TERMS, "\"claims\" and \"attacks\" mean those in play and the attacks between them",
            TermSentencesTest::onlyThoseInPlay);
        all.test(TERMS, "a set never contains a claim out of play", TermSentencesTest::setsWithinPlay);
        all.test(TERMS, "A set ATTACKS a claim if a member attacks it.", TermSentencesTest::setAttacks);
        all.test(TERMS, "A set is PEACEFUL if no member attacks a member.", TermSentencesTest::peaceful);
        all.test(TERMS, "A set DEFENDS a claim if it attacks every claim that attacks that claim.",
            TermSentencesTest::defends);
        all.end();
    }

    private static void numbered(Check check) {
        Frames.everyState((name, n, x) -> {
            for (int c : new int[] {0, n - 1}) {
                check.holds(name + "attacks takes " + c, x.attacks(c, c) >= 0);
                check.holds(name + "groundedLabel takes " + c, x.groundedLabel(c) != -1);
                check.holds(name + "possible takes " + c, x.possible(0, c) >= 0);
                check.holds(name + "certain takes " + c, x.certain(0, c) >= 0);
                check.holds(name + "attack takes " + c, x.attack(c, c, 1) >= 0);
                check.holds(name + "play takes " + c, x.play(c, 1) >= 0);
            }
            for (int c : new int[] {-1, n}) {
                check.due(name + "attack from " + c, x.attack(c, 0, 1), -1);
                check.due(name + "attack on " + c, x.attack(0, c, 1), -1);
                check.due(name + "attacks from " + c, x.attacks(c, 0), -1);
                check.due(name + "attacks on " + c, x.attacks(0, c), -1);
                check.due(name + "play " + c, x.play(c, 1), -1);
                check.due(name + "groundedLabel " + c, x.groundedLabel(c), -1);
                check.due(name + "possible " + c, x.possible(0, c), -2);
                check.due(name + "certain " + c, x.certain(0, c), -2);
            }
        });
    }

    private static void anotherOrItself(Check check) {
        for (int n = Frames.LEAST; n <= Frames.MOST; n++) {
            for (int c = 0; c < n; c++) {
                String name = n + " claims, " + c + " attacks itself: ";
                ArgSolver x = new ArgSolver(n);
                int others = Frames.full(n) - (1 << c);
                check.due(name + "attack", x.attack(c, c, 1), 0);
                check.due(name + "attacks", x.attacks(c, c), 1);
                check.due(name + "range", x.range(1 << c), 1 << c);
                check.due(name + "defended", x.defended(1 << c), Frames.full(n));
                check.due(name + "is admissible", x.is(ArgSolver.ADMISSIBLE, 1 << c), 0);
                check.due(name + "grounded", x.grounded(), others);
                check.due(name + "groundedLabel", x.groundedLabel(c), 2);
                check.due(name + "no stable set", x.count(ArgSolver.STABLE), 0);
                int next = (c + 1) % n;
                check.due(name + "attack another", x.attack(c, next, 1), 0);
                check.due(name + "attacks another", x.attacks(c, next), 1);
                check.due(name + "not the other way", x.attacks(next, c), 0);
                check.due(name + "range with another", x.range(1 << c), (1 << c) + (1 << next));
                check.due(name + "grounded with another", x.grounded(), others - (1 << next));
            }
        }
    }

    private static void noAttacksAtFirst(Check check) {
        for (int n = Frames.LEAST; n <= Frames.MOST; n++) {
            ArgSolver x = new ArgSolver(n);
            for (int a = 0; a < n; a++) {
                for (int b = 0; b < n; b++) {
                    check.due(n + " claims, new: attacks " + a + " " + b, x.attacks(a, b), 0);
                }
            }
            check.due(n + " claims, new: grounded", x.grounded(), Frames.full(n));
            check.due(n + " claims, new: all sets are admissible", x.count(ArgSolver.ADMISSIBLE), 1 << n);
        }
    }

    private static void sumOfMembers(Check check) {
        for (int n = Frames.LEAST; n <= Frames.MOST; n++) {
            ArgSolver x = new ArgSolver(n);
            for (int kind = 0; kind < Frames.KINDS; kind++) {
                String name = n + " claims: is " + kind;
                check.due(name + " the empty set", x.is(kind, 0), kind == ArgSolver.ADMISSIBLE ? 1 : 0);
                check.due(name + " the full set", x.is(kind, Frames.full(n)), 1);
                check.due(name + " below the empty set", x.is(kind, -1), -2);
                check.due(name + " above the full set", x.is(kind, 1 << n), -2);
            }
            for (int set = 0; set < 1 << n; set++) {
                check.due(n + " claims: range of " + set, x.range(set), set);
            }
            for (int c = 0; c < n; c++) {
                ArgSolver alone = Frames.without(new ArgSolver(n), Frames.full(n) - (1 << c));
                check.due(n + " claims: only " + c + " in play", alone.grounded(), 1 << c);
                int next = (c + 1) % n;
                int both = (1 << c) + (1 << next);
                check.due(n + " claims: " + c + " and the next", Frames.with(n, c, next).range(1 << c), both);
            }
        }
    }

    private static void someOutOfPlay(Check check) {
        for (int n = Frames.LEAST; n <= Frames.MOST; n++) {
            for (int out = 0; out < 1 << n; out++) {
                String name = n + " claims, out of play " + out + ": ";
                ArgSolver x = Frames.without(new ArgSolver(n), out);
                check.due(name + "grounded", x.grounded(), Frames.full(n) - out);
                check.due(name + "range of nothing", x.range(0), 0);
                check.due(name + "range of all", x.range(Frames.full(n)), out == 0 ? Frames.full(n) : -3);
            }
        }
        Frames.everyState((name, n, x) -> {
            Frames.without(x, Frames.full(n));
            check.due(name + "grounded of none", x.grounded(), 0);
            check.due(name + "ideal of none", x.ideal(), 0);
            check.due(name + "range of none", x.range(0), 0);
            check.due(name + "defended of none", x.defended(0), 0);
            for (int kind = 0; kind < Frames.KINDS; kind++) {
                check.due(name + "is of none " + kind, x.is(kind, 0), 1);
                check.due(name + "count of none " + kind, x.count(kind), 1);
                check.due(name + "nth of none " + kind, x.nth(kind, 0), 0);
                check.due(name + "core of none " + kind, x.core(kind), 0);
                check.due(name + "possible of none " + kind, x.possible(kind, 0), 0);
                check.due(name + "certain of none " + kind, x.certain(kind, n - 1), 0);
            }
        });
    }

    private static void allInPlayAtFirst(Check check) {
        for (int n = Frames.LEAST; n <= Frames.MOST; n++) {
            for (int c = 0; c < n; c++) {
                check.due(n + " claims, new: play " + c, new ArgSolver(n).play(c, 0), 1);
                check.due(n + " claims, new: groundedLabel " + c, new ArgSolver(n).groundedLabel(c), 0);
                check.due(n + " claims, new: range " + c, new ArgSolver(n).range(1 << c), 1 << c);
            }
            check.due(n + " claims, new: range of all", new ArgSolver(n).range(Frames.full(n)), Frames.full(n));
        }
    }

    private static void onlyThoseInPlay(Check check) {
        for (int n = Frames.LEAST; n <= Frames.MOST; n++) {
            for (int c = 0; c < n; c++) {
                String name = n + " claims, all attack all, only " + c + " in play, not attacking itself: ";
                ArgSolver x = Frames.without(Frames.allAttackAll(n), Frames.full(n) - (1 << c));
                x.attack(c, c, 0);
                check.due(name + "grounded", x.grounded(), 1 << c);
                check.due(name + "groundedLabel", x.groundedLabel(c), 0);
                check.due(name + "ideal", x.ideal(), 1 << c);
                check.due(name + "defended by nothing", x.defended(0), 1 << c);
                check.due(name + "range", x.range(1 << c), 1 << c);
                for (int kind = 0; kind < Frames.KINDS; kind++) {
                    check.due(name + "is " + kind, x.is(kind, 1 << c), 1);
                    check.due(name + "count " + kind, x.count(kind), kind == ArgSolver.ADMISSIBLE ? 2 : 1);
                }
            }
        }
    }

    private static void setsWithinPlay(Check check) {
        for (int n = Frames.LEAST; n <= Frames.MOST; n++) {
            for (int c = 0; c < n; c++) {
                String name = n + " claims, " + c + " out of play: ";
                int others = Frames.full(n) - (1 << c);
                ArgSolver x = Frames.without(new ArgSolver(n), 1 << c);
                // An attack on c must not bring it into a range.
                x.attack((c + 1) % n, c, 1);
                check.due(name + "grounded", x.grounded(), others);
                check.due(name + "ideal", x.ideal(), others);
                check.due(name + "defended", x.defended(0), others);
                check.due(name + "range", x.range(others), others);
                check.due(name + "admissible sets", x.count(ArgSolver.ADMISSIBLE), 1 << (n - 1));
                for (int kind = 0; kind < Frames.KINDS; kind++) {
                    int core = kind == ArgSolver.ADMISSIBLE ? 0 : others;
                    check.due(name + "last of " + kind, x.nth(kind, x.count(kind) - 1), others);
                    check.due(name + "core " + kind, x.core(kind), core);
                    check.due(name + "possible " + kind, x.possible(kind, c), 0);
                    check.due(name + "certain " + kind, x.certain(kind, c), 0);
                    check.due(name + "is " + kind, x.is(kind, 1 << c), -3);
                }
            }
        }
    }

    private static void setAttacks(Check check) {
        Frames.everyState((name, n, x) -> check.due(name + "the empty set attacks nothing", x.range(0), 0));
        for (int n = Frames.LEAST; n <= Frames.MOST; n++) {
            for (int pair = 0; pair < n * n; pair++) {
                int a = pair / n;
                int b = pair % n;
                ArgSolver x = Frames.with(n, a, b);
                for (int set = 0; set < 1 << n; set++) {
                    int want = (set >> a & 1) != 0 ? set | 1 << b : set;
                    check.due(n + " claims, " + a + " attacks " + b + ": range " + set, x.range(set), want);
                }
            }
        }
    }

    private static void peaceful(Check check) {
        Frames.everyState((name, n, x) ->
            check.due(name + "the empty set is peaceful", x.is(ArgSolver.ADMISSIBLE, 0), 1));
        for (int n = Frames.LEAST; n <= Frames.MOST; n++) {
            for (int pair = 0; pair < n * n; pair++) {
                int a = pair / n;
                int b = pair % n;
                // The whole of a and b attacks all that attacks it, so only peace can be wanting.
                int both = 1 << a | 1 << b;
                String name = n + " claims, " + a + " and " + b + " attack each other: ";
                ArgSolver x = Frames.without(Frames.with(n, a, b, b, a), Frames.full(n) - both);
                check.due(name + "both", x.is(ArgSolver.ADMISSIBLE, both), 0);
                check.due(name + "both, stable", x.is(ArgSolver.STABLE, both), 0);
                check.due(name + "both, stage", x.is(ArgSolver.STAGE, both), 0);
                check.due(name + "one", x.is(ArgSolver.ADMISSIBLE, 1 << a), a == b ? 0 : 1);
            }
        }
    }

    private static void defends(Check check) {
        for (int n = 3; n <= Frames.MOST; n++) {
            // The last claim attacks all attackers of 0: those between.
            int last = n - 1;
            ArgSolver x = new ArgSolver(n);
            for (int c = 1; c < last; c++) {
                x.attack(c, 0, 1);
                x.attack(last, c, 1);
            }
            check.due(n + " claims: the empty set defends the unattacked", x.defended(0), 1 << last);
            check.due(n + " claims: every attacker attacked", x.defended(1 << last), 1 << last | 1);
            for (int spared = 1; spared < last; spared++) {
                String name = n + " claims: the attacker " + spared + " spared";
                x.attack(last, spared, 0);
                check.due(name, x.defended(1 << last), 1 << last | 1 << spared);
                x.attack(last, spared, 1);
            }
        }
        for (int n = Frames.LEAST; n <= Frames.MOST; n++) {
            int full = Frames.full(n);
            check.due(n + " claims, no attacks: the full set", new ArgSolver(n).defended(full), full);
            check.due(n + " claims, a chain: the full set", Frames.chain(n).defended(full), full - 2);
            check.due(n + " claims, all attack all: the full set", Frames.allAttackAll(n).defended(full), full);
            check.due(n + " claims, all attack all: the empty set", Frames.allAttackAll(n).defended(0), 0);
            check.due(n + " claims, each attacks itself: one", Frames.allAttackThemselves(n).defended(2), 2);
        }
    }
}
