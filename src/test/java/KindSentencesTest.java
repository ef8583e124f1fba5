/** The sentences of "Terms" that say what the kinds and the grounded set are, a test for each at its edges. */
public final class KindSentencesTest {
    private static final String TERMS = "Terms";

    public static void main(String[] args) {
        Sentences all = new Sentences();
        all.test(TERMS, "A set is ADMISSIBLE (kind 0) if it is peaceful and defends each of its members.",
            KindSentencesTest::admissible);
        all.test(TERMS, "It is COMPLETE (kind 1) if it is admissible and contains every claim that it defends.",
            KindSentencesTest::complete);
        all.test(TERMS, "It is PREFERRED (kind 2) if it is admissible and no admissible set has it as a proper part.",
            KindSentencesTest::preferred);
        all.test(TERMS, "It is STABLE (kind 3) if it is peaceful and attacks every claim that is not in it.",
            KindSentencesTest::stable);
        all.test(TERMS, "no peaceful set's range has its range as a proper part", KindSentencesTest::stage);
        all.test(TERMS, "no complete set's range has its range as a proper part", KindSentencesTest::semistable);
        all.test(TERMS,
            "THE GROUNDED SET is the complete set that is part of every complete set (there always is one).",
            KindSentencesTest::alwaysGrounded);
        all.end();
    }

    private static void admissible(Check check) {
        int kind = ArgSolver.ADMISSIBLE;
        Frames.everyState((name, n, x) -> check.due(name + "the empty set", x.is(kind, 0), 1));
        for (int n = Frames.LEAST; n <= Frames.MOST; n++) {
            int full = Frames.full(n);
            check.due(n + " claims, no attacks: the full set", new ArgSolver(n).is(kind, full), 1);
            check.due(n + " claims, one attack: the full set", Frames.with(n, n - 1, 0).is(kind, full), 0);
            check.due(n + " claims, a chain: its head", Frames.chain(n).is(kind, 1), 1);
            check.due(n + " claims, a chain: the second, undefended", Frames.chain(n).is(kind, 2), 0);
            check.due(n + " claims, a chain: each second", Frames.chain(n).is(kind, Frames.evens(n)), 1);
            check.due(n + " claims, self-attack: at war with itself", Frames.allAttackThemselves(n).is(kind, 1), 0);
        }
        // 3 is undefended beside 0, which is not.
        check.due("each member, not some", Frames.with(4, 0, 1, 2, 3).is(kind, 0b1001), 0);
    }

    private static void complete(Check check) {
        int kind = ArgSolver.COMPLETE;
        for (int n = Frames.LEAST; n <= Frames.MOST; n++) {
            int full = Frames.full(n);
            check.due(n + " claims, no attacks: the empty set", new ArgSolver(n).is(kind, 0), 0);
            check.due(n + " claims, no attacks: all but one", new ArgSolver(n).is(kind, full - 1), 0);
            check.due(n + " claims, no attacks: the full set", new ArgSolver(n).is(kind, full), 1);
            check.due(n + " claims, a ring: the empty set", Frames.ring(n).is(kind, 0), 1);
            check.due(n + " claims, a chain: its head", Frames.chain(n).is(kind, 1), n == 2 ? 1 : 0);
            check.due(n + " claims, a chain: each second", Frames.chain(n).is(kind, Frames.evens(n)), 1);
            // {0} defends itself, all that it defends, and yet is not peaceful.
            check.due(n + " claims, self-attack: not admissible", Frames.allAttackThemselves(n).is(kind, 1), 0);
        }
    }

    private static void preferred(Check check) {
        int kind = ArgSolver.PREFERRED;
        for (int n = Frames.LEAST; n <= Frames.MOST; n++) {
            int full = Frames.full(n);
            check.due(n + " claims, no attacks: the full set", new ArgSolver(n).is(kind, full), 1);
            check.due(n + " claims, no attacks: all but one", new ArgSolver(n).is(kind, full - 1), 0);
            check.due(n + " claims, no attacks: the empty set", new ArgSolver(n).is(kind, 0), 0);
            check.due(n + " claims, self-attacks: the empty set", Frames.allAttackThemselves(n).is(kind, 0), 1);
            check.due(n + " claims, a ring: the empty set", Frames.ring(n).is(kind, 0), n % 2);
            check.due(n + " claims, a ring: how many", Frames.ring(n).count(kind), n % 2 == 0 ? 2 : 1);
            // {n-1} is part of greater sets, but none of those is admissible.
            check.due(n + " claims, the last attacks all", lastAttacksOthers(n).is(kind, 1 << (n - 1)), 1);
            check.due(n + " claims, the last attacks all: 0", lastAttacksOthers(n).is(kind, 1), 0);
        }
    }

    private static ArgSolver lastAttacksOthers(int n) {
        ArgSolver x = new ArgSolver(n);
        for (int c = 0; c < n - 1; c++) {
            x.attack(n - 1, c, 1);
        }
        return x;
    }

    private static void stable(Check check) {
        int kind = ArgSolver.STABLE;
        for (int n = Frames.LEAST; n <= Frames.MOST; n++) {
            int full = Frames.full(n);
            int last = 1 << (n - 1);
            check.due(n + " claims, no attacks: the full set", new ArgSolver(n).is(kind, full), 1);
            check.due(n + " claims, no attacks: all but one", new ArgSolver(n).is(kind, full - last), 0);
            check.due(n + " claims, no attacks: the empty set", new ArgSolver(n).is(kind, 0), 0);
            check.due(n + " claims, none in play", Frames.without(new ArgSolver(n), full).is(kind, 0), 1);
            check.due(n + " claims, all attack all: the full set", Frames.allAttackAll(n).is(kind, full), 0);
            check.due(n + " claims, all attack all: none", Frames.allAttackAll(n).count(kind), 0);
            check.due(n + " claims, a ring: how many", Frames.ring(n).count(kind), n % 2 == 0 ? 2 : 0);
            ArgSolver x = lastAttacksOthers(n);
            check.due(n + " claims, the last attacks all", x.is(kind, last), 1);
            x.attack(n - 1, 0, 0);
            check.due(n + " claims, the last attacks all but one", x.is(kind, last), 0);
            check.due(n + " claims, and that one with it", x.is(kind, last + 1), 1);
        }
    }

    /** {0} reaches 0, 1 and 3, {1} reaches 0, 1, 2 and 4: neither range is part of the other. */
    private static ArgSolver unlikeRanges() {
        return Frames.with(5, 0, 1, 1, 0, 0, 3, 3, 3, 1, 2, 2, 2, 1, 4, 4, 4);
    }

    private static void stage(Check check) {
        int kind = ArgSolver.STAGE;
        check.due("equal ranges, the first", Frames.ring(2).is(kind, 1), 1);
        check.due("equal ranges, the second", Frames.ring(2).is(kind, 2), 1);
        check.due("equal ranges, the empty set", Frames.ring(2).is(kind, 0), 0);
        check.due("ranges side by side", Frames.ring(3).count(kind), 3);
        // {0} and {0, 1} reach all, but 0 attacks itself.
        check.due("only peaceful ranges", Frames.with(2, 0, 0, 0, 1).is(kind, 2), 1);
        check.due("peaceful is not enough", Frames.with(2, 0, 1).is(kind, 2), 0);
        check.due("peaceful itself", Frames.with(2, 0, 0, 0, 1).is(kind, 1), 0);
        // {1, 3} has fewer members than {0, 1, 2}, yet reaches more.
        check.due("by range, not by members", Frames.with(5, 3, 0, 3, 2, 3, 4, 4, 4).is(kind, 0b00111), 0);
        check.due("by inclusion, the shorter", unlikeRanges().is(kind, 1), 1);
        check.due("by inclusion, the longer", unlikeRanges().is(kind, 2), 1);
        for (int n = Frames.LEAST; n <= Frames.MOST; n++) {
            int full = Frames.full(n);
            check.due(n + " claims, self-attacks: the empty set", Frames.allAttackThemselves(n).is(kind, 0), 1);
            check.due(n + " claims, no attacks: the full set", new ArgSolver(n).is(kind, full), 1);
            check.due(n + " claims, no attacks: all but one", new ArgSolver(n).is(kind, full - 1), 0);
        }
        Frames.everySmallFramework((name, n, x) -> check.holds(name + "some stage set", x.count(kind) > 0));
    }

    private static void semistable(Check check) {
        int kind = ArgSolver.SEMISTABLE;
        check.due("equal ranges, the first", Frames.ring(2).is(kind, 1), 1);
        check.due("equal ranges, the second", Frames.ring(2).is(kind, 2), 1);
        check.due("equal ranges, the empty set", Frames.ring(2).is(kind, 0), 0);
        // Peaceful sets reach further than the empty set, but none of them is complete.
        check.due("only complete ranges", Frames.ring(3).is(kind, 0), 1);
        check.due("complete itself", Frames.ring(3).is(kind, 1), 0);
        // {0} is preferred, yet {1} reaches 2 too.
        check.due("a smaller range", Frames.with(3, 0, 1, 1, 0, 1, 2, 2, 2).is(kind, 1), 0);
        check.due("a greater range", Frames.with(3, 0, 1, 1, 0, 1, 2, 2, 2).is(kind, 2), 1);
        check.due("by inclusion, the shorter", unlikeRanges().is(kind, 1), 1);
        check.due("by inclusion, the longer", unlikeRanges().is(kind, 2), 1);
        for (int n = Frames.LEAST; n <= Frames.MOST; n++) {
            int full = Frames.full(n);
            check.due(n + " claims, self-attacks: the empty set", Frames.allAttackThemselves(n).is(kind, 0), 1);
            check.due(n + " claims, no attacks: the full set", new ArgSolver(n).is(kind, full), 1);
            check.due(n + " claims, no attacks: all but one", new ArgSolver(n).is(kind, full - 1), 0);
        }
        Frames.everySmallFramework((name, n, x) -> check.holds(name + "some semistable set", x.count(kind) > 0));
    }

    private static void alwaysGrounded(Check check) {
        Frames.Use groundedIsLeastComplete = (name, n, x) -> {
            int set = x.grounded();
            check.due(name + "grounded is complete", x.is(ArgSolver.COMPLETE, set), 1);
            int count = x.count(ArgSolver.COMPLETE);
            for (int i = 0; i < count; i++) {
                int other = x.nth(ArgSolver.COMPLETE, i);
                check.due(name + "grounded is part of " + other, set & ~other, 0);
            }
        };
        Frames.everyState(groundedIsLeastComplete);
        Frames.everySmallFramework(groundedIsLeastComplete);
    }
}
