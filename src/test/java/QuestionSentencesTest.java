/** The sentences of promises 8 to 13, about all sets of a kind, a test for each. */
public final class QuestionSentencesTest {
    private static final String BAD_KIND = "-1 if kind is not in 0 .. 5";

    public static void main(String[] args) {
        Sentences all = new Sentences();
        all.test("Promise 8", "1 if the set is of this kind, otherwise 0.", QuestionSentencesTest::is);
        all.test("Promise 8", BAD_KIND, QuestionSentencesTest::isBadKind);
        all.test("Promise 8", "-2 if set is not in 0 .. 2^n - 1", QuestionSentencesTest::isBadSet);
        all.test("Promise 8", "-3 if it contains a claim out of play", QuestionSentencesTest::isOutOfPlay);
        all.test("Promise 9", "How many sets of this kind there are", QuestionSentencesTest::count);
        all.test("Promise 9", BAD_KIND, QuestionSentencesTest::countBadKind);
        all.test("Promise 10", "The i-th set of this kind in rising order of numbers (0 for the first).",
            QuestionSentencesTest::nth);
        all.test("Promise 10", BAD_KIND, QuestionSentencesTest::nthBadKind);
        all.test("Promise 10", "-2 if there is no such set", QuestionSentencesTest::nthNoSuchSet);
        all.test("Promise 11", "1 if some set of this kind contains the claim, otherwise 0.",
            QuestionSentencesTest::possible);
        all.test("Promise 11", BAD_KIND, QuestionSentencesTest::possibleBadKind);
        all.test("Promise 11", "-2 if c is not good", QuestionSentencesTest::possibleBadClaim);
        all.test("Promise 12", "1 if every set of this kind contains the claim", QuestionSentencesTest::certain);
        all.test("Promise 12", "(so also if there is no such set)", QuestionSentencesTest::certainOfNone);
        all.test("Promise 12", "otherwise 0", QuestionSentencesTest::certainOtherwise);
        all.test("Promise 12", BAD_KIND, QuestionSentencesTest::certainBadKind);
        all.test("Promise 12", "-2 if c is not good", QuestionSentencesTest::certainBadClaim);
        all.test("Promise 13", "The set of the claims that every set of this kind contains",
            QuestionSentencesTest::core);
        all.test("Promise 13", "-2 if there is no set of this kind", QuestionSentencesTest::coreOfNone);
        all.test("Promise 13", "-1 if kind is not in 0 .. 5 (tested first)", QuestionSentencesTest::coreBadKind);
        all.end();
    }

    /** How many sets of a kind there are, in the order of Frames.STATES up to "all attack all". */
    private static int dueCount(int n, int which, int kind) {
        boolean odd = n % 2 == 1;
        switch (which) {
            case 0:
                return kind == ArgSolver.ADMISSIBLE ? 1 << n : 1;
            case 1:
                // The admissible sets of a chain are the heads 0, 0 and 2, and so on of its even claims.
                return kind == ArgSolver.ADMISSIBLE ? (n + 1) / 2 + 1 : 1;
            case 2:
                if (odd) {
                    return kind == ArgSolver.STABLE ? 0 : kind == ArgSolver.STAGE ? n : 1;
                }
                return kind == ArgSolver.ADMISSIBLE || kind == ArgSolver.COMPLETE ? 3 : 2;
            default:
                return kind == ArgSolver.STABLE ? 0 : 1;
        }
    }

    private static void is(Check check) {
        for (int n = Frames.LEAST; n <= Frames.MOST; n++) {
            int full = Frames.full(n);
            for (int kind = 0; kind < Frames.KINDS; kind++) {
                String name = n + " claims, is " + kind + ": ";
                int stable = kind == ArgSolver.STABLE ? 0 : 1;
                check.due(name + "full, no attacks", new ArgSolver(n).is(kind, full), 1);
                check.due(name + "full, ring", Frames.ring(n).is(kind, full), 0);
                check.due(name + "empty, no attacks", new ArgSolver(n).is(kind, 0), kind == 0 ? 1 : 0);
                check.due(name + "empty, all attack all", Frames.allAttackAll(n).is(kind, 0), stable);
                check.due(name + "full, all attack all", Frames.allAttackAll(n).is(kind, full), 0);
                check.due(name + "chain", Frames.chain(n).is(kind, Frames.evens(n)), 1);
                check.due(name + "chain, the rest", Frames.chain(n).is(kind, full - Frames.evens(n)), 0);
                check.due(name + "none in play", Frames.without(Frames.ring(n), full).is(kind, 0), 1);
            }
        }
    }

    private static void isBadKind(Check check) {
        Frames.everyState((name, n, x) -> {
            for (int bad : Frames.badKinds()) {
                check.due(name + "is " + bad + " 0", x.is(bad, 0), -1);
                check.due(name + "is " + bad + " 1", x.is(bad, 1), -1);
                check.due(name + "is " + bad + " full", x.is(bad, Frames.full(n)), -1);
            }
            check.holds(name + "the least kind", x.is(0, 0) != -1);
            check.holds(name + "the greatest kind", x.is(5, 0) != -1);
        });
    }

    private static void isBadSet(Check check) {
        Frames.everyState((name, n, x) -> {
            for (int kind = 0; kind < Frames.KINDS; kind++) {
                for (int bad : Frames.badSets(n)) {
                    check.due(name + "is " + kind + " " + bad, x.is(kind, bad), -2);
                }
                check.holds(name + "is " + kind + " 0", x.is(kind, 0) >= 0);
                check.holds(name + "is " + kind + " full", x.is(kind, Frames.full(n)) != -2);
            }
        });
    }

    private static void isOutOfPlay(Check check) {
        for (int n = Frames.LEAST; n <= Frames.MOST; n++) {
            int full = Frames.full(n);
            for (int kind = 0; kind < Frames.KINDS; kind++) {
                for (int c = 0; c < n; c++) {
                    ArgSolver x = Frames.without(new ArgSolver(n), 1 << c);
                    String name = n + " claims, " + c + " out of play, is " + kind + ": ";
                    for (int set = 0; set < 1 << n; set++) {
                        int outside = (set >> c & 1) != 0 ? 1 : 0;
                        check.due(name + set, x.is(kind, set) == -3 ? 1 : 0, outside);
                    }
                    check.due(name + "full", x.is(kind, full), -3);
                    check.due(name + "all in play", x.is(kind, full - (1 << c)), 1);
                }
                ArgSolver none = Frames.without(Frames.chain(n), full);
                check.due(n + " claims, none in play, is " + kind + ": empty", none.is(kind, 0), 1);
                check.due(n + " claims, none in play, is " + kind + ": full", none.is(kind, full), -3);
            }
        }
    }

    private static void count(Check check) {
        for (int n = Frames.LEAST; n <= Frames.MOST; n++) {
            for (int which = 0; which <= 4; which++) {
                ArgSolver x = Frames.state(n, which);
                for (int kind = 0; kind < Frames.KINDS; kind++) {
                    String name = n + " claims, " + Frames.STATES[which] + ": count " + kind;
                    check.due(name, x.count(kind), dueCount(n, which, kind));
                }
            }
            ArgSolver none = Frames.without(Frames.ring(n), Frames.full(n));
            for (int kind = 0; kind < Frames.KINDS; kind++) {
                check.due(n + " claims, none in play: count " + kind, none.count(kind), 1);
            }
        }
    }

    private static void countBadKind(Check check) {
        Frames.everyState((name, n, x) -> {
            for (int bad : Frames.badKinds()) {
                check.due(name + "count " + bad, x.count(bad), -1);
            }
            check.holds(name + "the least kind", x.count(0) >= 0);
            check.holds(name + "the greatest kind", x.count(5) >= 0);
        });
    }

    private static void nth(Check check) {
        for (int n = Frames.LEAST; n <= Frames.MOST; n++) {
            ArgSolver x = new ArgSolver(n);
            for (int i = 0; i < 1 << n; i++) {
                check.due(n + " claims, no attacks: nth 0 " + i, x.nth(ArgSolver.ADMISSIBLE, i), i);
            }
            ArgSolver ring = Frames.ring(n);
            if (n % 2 == 0) {
                check.due(n + " claims, ring: first stable", ring.nth(ArgSolver.STABLE, 0), Frames.evens(n));
                int odds = Frames.full(n) - Frames.evens(n);
                check.due(n + " claims, ring: last stable", ring.nth(ArgSolver.STABLE, 1), odds);
            }
        }
        Frames.everyState((name, n, x) -> {
            for (int kind = 0; kind < Frames.KINDS; kind++) {
                risesToTheLast(check, name + "nth " + kind + " ", x, kind);
            }
        });
    }

    /** Looks at the first few and the last, so that the object's calls are enough. */
    private static void risesToTheLast(Check check, String name, ArgSolver x, int kind) {
        int last = x.count(kind) - 1;
        int before = -1;
        for (int i = 0; i <= last && i < 12; i++) {
            int set = x.nth(kind, i);
            check.holds(name + i + " is greater than the one before", set > before);
            check.due(name + i + " is of the kind", x.is(kind, set), 1);
            before = set;
        }
        check.holds(name + "last", last < 0 || x.nth(kind, last) >= before);
    }

    private static void nthBadKind(Check check) {
        Frames.everyState((name, n, x) -> {
            for (int bad : Frames.badKinds()) {
                check.due(name + "nth " + bad + " 0", x.nth(bad, 0), -1);
                check.due(name + "nth " + bad + " -1", x.nth(bad, -1), -1);
                check.due(name + "nth " + bad + " greatest", x.nth(bad, Integer.MAX_VALUE), -1);
            }
            check.holds(name + "the least kind", x.nth(0, 0) >= 0);
            check.holds(name + "the greatest kind", x.nth(5, 0) >= 0);
        });
    }

    private static void nthNoSuchSet(Check check) {
        int[] never = {-1, -2, -256, Integer.MIN_VALUE, 256, 257, 65536, Integer.MAX_VALUE};
        Frames.everyState((name, n, x) -> {
            for (int kind = 0; kind < Frames.KINDS; kind++) {
                int count = x.count(kind);
                check.due(name + "nth " + kind + " past the last", x.nth(kind, count), -2);
                check.holds(name + "nth " + kind + " the last", count == 0 || x.nth(kind, count - 1) >= 0);
                for (int i : never) {
                    check.due(name + "nth " + kind + " " + i, x.nth(kind, i), -2);
                }
            }
        });
        for (int n = Frames.LEAST; n <= Frames.MOST; n++) {
            check.due(n + " claims, no stable set", Frames.allAttackAll(n).nth(ArgSolver.STABLE, 0), -2);
        }
    }

    private static void possible(Check check) {
        for (int n = Frames.LEAST; n <= Frames.MOST; n++) {
            for (int kind = 0; kind < Frames.KINDS; kind++) {
                for (int c = 0; c < n; c++) {
                    String name = n + " claims, possible " + kind + " " + c + ": ";
                    ArgSolver out = Frames.without(new ArgSolver(n), 1 << c);
                    check.due(name + "no attacks", new ArgSolver(n).possible(kind, c), 1);
                    check.due(name + "out of play", out.possible(kind, c), 0);
                    check.due(name + "attacks itself", Frames.with(n, c, c).possible(kind, c), 0);
                    check.due(name + "all attack all", Frames.allAttackAll(n).possible(kind, c), 0);
                    check.due(name + "chain", Frames.chain(n).possible(kind, c), 1 - c % 2);
                    int inRing = n % 2 == 0 || kind == ArgSolver.STAGE ? 1 : 0;
                    check.due(name + "ring, some but not every set", Frames.ring(n).possible(kind, c), inRing);
                }
            }
        }
    }

    private static void possibleBadKind(Check check) {
        Frames.everyState((name, n, x) -> {
            for (int bad : Frames.badKinds()) {
                check.due(name + "possible " + bad + " 0", x.possible(bad, 0), -1);
                check.due(name + "possible " + bad + " last", x.possible(bad, n - 1), -1);
                check.due(name + "possible " + bad + " past the last", x.possible(bad, n), -1);
            }
            check.holds(name + "the least kind", x.possible(0, 0) >= 0);
            check.holds(name + "the greatest kind", x.possible(5, 0) >= 0);
        });
    }

    private static void possibleBadClaim(Check check) {
        Frames.everyState((name, n, x) -> {
            for (int kind = 0; kind < Frames.KINDS; kind++) {
                for (int bad : Frames.badClaims(n)) {
                    check.due(name + "possible " + kind + " " + bad, x.possible(kind, bad), -2);
                }
                check.holds(name + "possible " + kind + " first", x.possible(kind, 0) >= 0);
                check.holds(name + "possible " + kind + " last", x.possible(kind, n - 1) >= 0);
            }
        });
    }

    private static void certain(Check check) {
        for (int n = Frames.LEAST; n <= Frames.MOST; n++) {
            for (int kind = 0; kind < Frames.KINDS; kind++) {
                for (int c = 0; c < n; c++) {
                    String name = n + " claims, certain " + kind + " " + c + ": ";
                    // The empty set is admissible and contains no claim.
                    int want = kind == ArgSolver.ADMISSIBLE ? 0 : 1;
                    check.due(name + "no attacks", new ArgSolver(n).certain(kind, c), want);
                    check.due(name + "chain", Frames.chain(n).certain(kind, c), c % 2 == 0 ? want : 0);
                }
            }
        }
        // 3 is in both preferred sets, 0 in one of them.
        ArgSolver floating = Frames.floating();
        check.due("in both", floating.certain(ArgSolver.PREFERRED, 3), 1);
        check.due("in the first", floating.certain(ArgSolver.PREFERRED, 0), 0);
        check.due("in the last", floating.certain(ArgSolver.PREFERRED, 1), 0);
    }

    private static void certainOfNone(Check check) {
        for (int n = Frames.LEAST; n <= Frames.MOST; n++) {
            for (int c = 0; c < n; c++) {
                String name = n + " claims, no stable set: certain " + c;
                check.due(name, Frames.allAttackAll(n).certain(ArgSolver.STABLE, c), 1);
                check.due(name + ", which attacks itself", Frames.with(n, c, c).certain(ArgSolver.STABLE, c), 1);
                ArgSolver x = Frames.without(Frames.allAttackAll(n), 1 << c);
                check.due(name + ", which is out of play", x.certain(ArgSolver.STABLE, c), 1);
            }
        }
        check.due("a ring of three", Frames.ring(3).certain(ArgSolver.STABLE, 0), 1);
    }

    private static void certainOtherwise(Check check) {
        for (int n = Frames.LEAST; n <= Frames.MOST; n++) {
            for (int kind = 0; kind < Frames.KINDS; kind++) {
                for (int c = 0; c < n; c++) {
                    String name = n + " claims, certain " + kind + " " + c + ": ";
                    ArgSolver out = Frames.without(new ArgSolver(n), 1 << c);
                    ArgSolver none = Frames.without(new ArgSolver(n), Frames.full(n));
                    check.due(name + "out of play", out.certain(kind, c), 0);
                    check.due(name + "none in play", none.certain(kind, c), 0);
                    int inRing = n % 2 == 1 && kind == ArgSolver.STABLE ? 1 : 0;
                    check.due(name + "ring", Frames.ring(n).certain(kind, c), inRing);
                }
            }
        }
    }

    private static void certainBadKind(Check check) {
        Frames.everyState((name, n, x) -> {
            for (int bad : Frames.badKinds()) {
                check.due(name + "certain " + bad + " 0", x.certain(bad, 0), -1);
                check.due(name + "certain " + bad + " last", x.certain(bad, n - 1), -1);
                check.due(name + "certain " + bad + " past the last", x.certain(bad, n), -1);
            }
            check.holds(name + "the least kind", x.certain(0, 0) >= 0);
            check.holds(name + "the greatest kind", x.certain(5, 0) >= 0);
        });
    }

    private static void certainBadClaim(Check check) {
        Frames.everyState((name, n, x) -> {
            for (int kind = 0; kind < Frames.KINDS; kind++) {
                for (int bad : Frames.badClaims(n)) {
                    check.due(name + "certain " + kind + " " + bad, x.certain(kind, bad), -2);
                }
                check.holds(name + "certain " + kind + " first", x.certain(kind, 0) >= 0);
                check.holds(name + "certain " + kind + " last", x.certain(kind, n - 1) >= 0);
            }
        });
    }

    private static void core(Check check) {
        for (int n = Frames.LEAST; n <= Frames.MOST; n++) {
            int full = Frames.full(n);
            for (int kind = 0; kind < Frames.KINDS; kind++) {
                String name = n + " claims, core " + kind + ": ";
                boolean withEmpty = kind == ArgSolver.ADMISSIBLE;
                check.due(name + "no attacks", new ArgSolver(n).core(kind), withEmpty ? 0 : full);
                check.due(name + "chain", Frames.chain(n).core(kind), withEmpty ? 0 : Frames.evens(n));
                check.due(name + "none in play", Frames.without(new ArgSolver(n), full).core(kind), 0);
                int lastOut = full - (1 << (n - 1));
                ArgSolver x = Frames.without(new ArgSolver(n), 1 << (n - 1));
                check.due(name + "the last out of play", x.core(kind), withEmpty ? 0 : lastOut);
            }
        }
        ArgSolver floating = Frames.floating();
        check.due("of two preferred sets", floating.core(ArgSolver.PREFERRED), 8);
        check.due("of two sets with nothing in common", Frames.ring(2).core(ArgSolver.PREFERRED), 0);
    }

    private static void coreOfNone(Check check) {
        for (int n = Frames.LEAST; n <= Frames.MOST; n++) {
            check.due(n + " claims, all attack all", Frames.allAttackAll(n).core(ArgSolver.STABLE), -2);
            check.due(n + " claims, 0 attacks itself", Frames.with(n, 0, 0).core(ArgSolver.STABLE), -2);
            int ring = n % 2 == 0 ? 0 : -2;
            check.due(n + " claims, ring", Frames.ring(n).core(ArgSolver.STABLE), ring);
            ArgSolver none = Frames.without(Frames.allAttackAll(n), Frames.full(n));
            check.due(n + " claims, none in play: one set, the empty one", none.core(ArgSolver.STABLE), 0);
        }
    }

    private static void coreBadKind(Check check) {
        Frames.everyState((name, n, x) -> {
            for (int bad : Frames.badKinds()) {
                check.due(name + "core " + bad, x.core(bad), -1);
            }
            check.holds(name + "the least kind", x.core(0) != -1);
            check.holds(name + "the greatest kind", x.core(5) != -1);
        });
    }
}
