/** The sentences of promises 1 to 5, about making and changing an object, a test for each. */
public final class StateSentencesTest {
    private static final int[] FLAGS = {1, 2, -1, 256, 65536, Integer.MIN_VALUE, Integer.MAX_VALUE};

    public static void main(String[] args) {
        Sentences all = new Sentences();
        all.test("Promise 1", "claims is n", StateSentencesTest::claimsIsN);
        all.test("Promise 1", "below 2 becomes 2", StateSentencesTest::belowTwo);
        all.test("Promise 1", "above 8 becomes 8", StateSentencesTest::aboveEight);
        all.test("Promise 2", "n.", StateSentencesTest::claimsStays);
        all.test("Promise 3", "Claim a attacks claim b (flag not 0)", StateSentencesTest::attackOn);
        all.test("Promise 3", "or does not (flag 0)", StateSentencesTest::attackOff);
        all.test("Promise 3", "-1 if a or b is not good", StateSentencesTest::attackRefused);
        all.test("Promise 3", "otherwise 1 if it did before, else 0", StateSentencesTest::attackBefore);
        all.test("Promise 4", "1 if a attacks b (in play or not)", StateSentencesTest::attacksInPlayOrNot);
        all.test("Promise 4", "otherwise 0", StateSentencesTest::attacksOtherwise);
        all.test("Promise 4", "-1 if a or b is not good", StateSentencesTest::attacksRefused);
        all.test("Promise 5", "Claim c is in play (flag not 0)", StateSentencesTest::playIn);
        all.test("Promise 5", "or out of play (flag 0)", StateSentencesTest::playOut);
        all.test("Promise 5", "its attacks are kept", StateSentencesTest::attacksAreKept);
        all.test("Promise 5", "-1 if c is not good", StateSentencesTest::playRefused);
        all.test("Promise 5", "otherwise 1 if it was in play before, else 0", StateSentencesTest::playBefore);
        all.end();
    }

    /** Looks at the size of a new object from all sides: claims, numbers of claims, numbers of sets. */
    private static void hasSize(Check check, int asked, int n) {
        String name = "new ArgSolver(" + asked + "): ";
        ArgSolver x = new ArgSolver(asked);
        int full = Frames.full(n);
        check.due(name + "claims", x.claims(), n);
        check.due(name + "grounded", x.grounded(), full);
        check.due(name + "how many sets", x.count(ArgSolver.ADMISSIBLE), 1 << n);
        check.due(name + "range of the full set", x.range(full), full);
        check.due(name + "range beyond the full set", x.range(full + 1), -2);
        check.due(name + "first and last claim", x.attack(0, n - 1, 1), 0);
        check.due(name + "last and first claim", x.attack(n - 1, 0, 1), 0);
        check.due(name + "beyond the last claim", x.attack(n, n, 1), -1);
        check.due(name + "last claim in play", x.play(n - 1, 0), 1);
        check.due(name + "next claim not there", x.play(n, 1), -1);
    }

    private static void claimsIsN(Check check) {
        for (int n = Frames.LEAST; n <= Frames.MOST; n++) {
            hasSize(check, n, n);
        }
    }

    private static void belowTwo(Check check) {
        for (int asked : new int[] {Integer.MIN_VALUE, Integer.MIN_VALUE + 5, -256, -8, -2, -1, 0, 1}) {
            hasSize(check, asked, 2);
        }
    }

    private static void aboveEight(Check check) {
        for (int asked : new int[] {9, 10, 16, 31, 32, 35, 256, 259, 65536, Integer.MAX_VALUE - 1, Integer.MAX_VALUE}) {
            hasSize(check, asked, 8);
        }
    }

    private static void claimsStays(Check check) {
        Frames.everyState((name, n, x) -> {
            check.due(name + "claims", x.claims(), n);
            Frames.without(x, Frames.full(n));
            check.due(name + "claims with none in play", x.claims(), n);
            x.attack(n, n, 1);
            x.play(n, 1);
            check.due(name + "claims after refused calls", x.claims(), n);
        });
    }

    /** Looks at every pair: attacked is what is due for a and b, others for the rest. */
    private static void dueAttacks(Check check, String name, ArgSolver x, int n, int pair, int attacked, int others) {
        for (int k = 0; k < n * n; k++) {
            check.due(name + "attacks " + k / n + " " + k % n, x.attacks(k / n, k % n), k == pair ? attacked : others);
        }
    }

    private static void attackOn(Check check) {
        for (int n = Frames.LEAST; n <= Frames.MOST; n++) {
            for (int pair = 0; pair < n * n; pair++) {
                int flag = FLAGS[pair % FLAGS.length];
                int a = pair / n;
                int b = pair % n;
                String name = n + " claims, attack " + a + " " + b + " " + flag + ": ";
                ArgSolver x = new ArgSolver(n);
                x.attack(a, b, flag);
                dueAttacks(check, name, x, n, pair, 1, 0);
                check.due(name + "range", x.range(1 << a), 1 << a | 1 << b);
                x.attack(a, b, flag);
                dueAttacks(check, name + "again: ", x, n, pair, 1, 0);
            }
        }
        for (int flag : FLAGS) {
            ArgSolver x = new ArgSolver(2);
            x.attack(1, 0, flag);
            check.due("attack 1 0 " + flag, x.attacks(1, 0), 1);
        }
    }

    private static void attackOff(Check check) {
        for (int n = Frames.LEAST; n <= Frames.MOST; n++) {
            for (int pair = 0; pair < n * n; pair++) {
                int a = pair / n;
                int b = pair % n;
                int full = Frames.full(n);
                String name = n + " claims, attack " + a + " " + b + " 0: ";
                ArgSolver x = Frames.allAttackAll(n);
                x.attack(a, b, 0);
                dueAttacks(check, name, x, n, pair, 0, 1);
                check.due(name + "range", x.range(1 << a), a == b ? full : full - (1 << b));
                x.attack(a, b, 0);
                dueAttacks(check, name + "again: ", x, n, pair, 0, 1);
            }
        }
    }

    private static void attackRefused(Check check) {
        Frames.everyState((name, n, x) -> {
            for (int bad : Frames.badClaims(n)) {
                for (int flag = 0; flag < 2; flag++) {
                    check.due(name + "attack " + bad + " 0 " + flag, x.attack(bad, 0, flag), -1);
                    check.due(name + "attack 0 " + bad + " " + flag, x.attack(0, bad, flag), -1);
                    check.due(name + "attack " + bad + " last " + flag, x.attack(bad, n - 1, flag), -1);
                    check.due(name + "attack last " + bad + " " + flag, x.attack(n - 1, bad, flag), -1);
                    check.due(name + "attack " + bad + " itself " + flag, x.attack(bad, bad, flag), -1);
                }
            }
        });
    }

    private static void attackBefore(Check check) {
        Frames.everyState((name, n, x) -> {
            for (int c = 0; c < n; c++) {
                int b = (c + n - 1) % n;
                x.attack(c, b, 0);
                check.due(name + "never, and not now, " + c, x.attack(c, b, 0), 0);
                check.due(name + "not before " + c, x.attack(c, b, Integer.MIN_VALUE), 0);
                check.due(name + "before, and again, " + c, x.attack(c, b, 1), 1);
                check.due(name + "before, and no more, " + c, x.attack(c, b, 0), 1);
                check.due(name + "no more " + c, x.attack(c, b, 1), 0);
                x.attack(c, c, 0);
                check.due(name + "not itself before " + c, x.attack(c, c, 1), 0);
                check.due(name + "itself before, and no more, " + c, x.attack(c, c, 0), 1);
                check.due(name + "itself no more " + c, x.attack(c, c, 0), 0);
            }
        });
    }

    private static void attacksInPlayOrNot(Check check) {
        for (int n = Frames.LEAST; n <= Frames.MOST; n++) {
            for (int c = 0; c < n; c++) {
                ArgSolver x = Frames.without(Frames.allAttackAll(n), 1 << c);
                dueAttacks(check, n + " claims, " + c + " out of play: ", x, n, -1, 0, 1);
            }
            ArgSolver none = Frames.without(Frames.allAttackAll(n), Frames.full(n));
            dueAttacks(check, n + " claims, none in play: ", none, n, -1, 0, 1);
        }
    }

    private static void attacksOtherwise(Check check) {
        for (int n = Frames.LEAST; n <= Frames.MOST; n++) {
            dueAttacks(check, n + " claims, new: ", new ArgSolver(n), n, -1, 0, 0);
            ArgSolver none = Frames.without(new ArgSolver(n), Frames.full(n));
            dueAttacks(check, n + " claims, none in play: ", none, n, -1, 0, 0);
            dueAttacks(check, n + " claims, one attack: ", Frames.with(n, 0, n - 1), n, n - 1, 1, 0);
        }
    }

    private static void attacksRefused(Check check) {
        Frames.everyState((name, n, x) -> {
            for (int bad : Frames.badClaims(n)) {
                check.due(name + "attacks " + bad + " 0", x.attacks(bad, 0), -1);
                check.due(name + "attacks 0 " + bad, x.attacks(0, bad), -1);
                check.due(name + "attacks " + bad + " last", x.attacks(bad, n - 1), -1);
                check.due(name + "attacks last " + bad, x.attacks(n - 1, bad), -1);
                check.due(name + "attacks " + bad + " itself", x.attacks(bad, bad), -1);
            }
        });
    }

    private static void playIn(Check check) {
        for (int n = Frames.LEAST; n <= Frames.MOST; n++) {
            for (int c = 0; c < n; c++) {
                for (int flag : FLAGS) {
                    String name = n + " claims, none in play, play " + c + " " + flag + ": ";
                    ArgSolver x = Frames.without(new ArgSolver(n), Frames.full(n));
                    x.play(c, flag);
                    check.due(name + "grounded", x.grounded(), 1 << c);
                    x.play(c, flag);
                    check.due(name + "grounded after once more", x.grounded(), 1 << c);
                    check.due(name + "groundedLabel", x.groundedLabel(c), 0);
                    check.due(name + "is", x.is(ArgSolver.STABLE, 1 << c), 1);
                }
            }
        }
    }

    private static void playOut(Check check) {
        for (int n = Frames.LEAST; n <= Frames.MOST; n++) {
            for (int c = 0; c < n; c++) {
                String name = n + " claims, play " + c + " 0: ";
                ArgSolver x = new ArgSolver(n);
                x.play(c, 0);
                check.due(name + "grounded", x.grounded(), Frames.full(n) - (1 << c));
                x.play(c, 0);
                check.due(name + "grounded after once more", x.grounded(), Frames.full(n) - (1 << c));
                check.due(name + "groundedLabel", x.groundedLabel(c), -2);
                check.due(name + "is", x.is(ArgSolver.STABLE, 1 << c), -3);
            }
        }
    }

    private static void attacksAreKept(Check check) {
        for (int n = Frames.LEAST; n <= Frames.MOST; n++) {
            for (int c = 0; c < n; c++) {
                String name = n + " claims, all attack all, " + c;
                ArgSolver x = Frames.without(Frames.allAttackAll(n), 1 << c);
                dueAttacks(check, name + " out: ", x, n, -1, 0, 1);
                x.play(c, 1);
                dueAttacks(check, name + " back: ", x, n, -1, 0, 1);
                check.due(name + " back: range", x.range(1 << c), Frames.full(n));
                check.due(name + " back: grounded", x.grounded(), 0);
            }
            ArgSolver y = Frames.chain(n);
            y.play(0, 0);
            y.play(0, 1);
            check.due(n + " claims, a chain whose head was out: grounded", y.grounded(), Frames.evens(n));
            y.play(0, 0);
            y.attack(0, 1, 0);
            y.attack(0, 0, 1);
            y.play(0, 1);
            check.due(n + " claims, changed while out: the old attack", y.attacks(0, 1), 0);
            check.due(n + " claims, changed while out: the new attack", y.attacks(0, 0), 1);
            check.due(n + " claims, changed while out: range", y.range(1), 1);
            check.due(n + " claims, changed while out: label", y.groundedLabel(0), 2);
        }
    }

    private static void playRefused(Check check) {
        Frames.everyState((name, n, x) -> {
            for (int bad : Frames.badClaims(n)) {
                check.due(name + "play " + bad + " 0", x.play(bad, 0), -1);
                check.due(name + "play " + bad + " 1", x.play(bad, 1), -1);
                check.due(name + "play " + bad + " -1", x.play(bad, -1), -1);
            }
        });
    }

    private static void playBefore(Check check) {
        for (int n = Frames.LEAST; n <= Frames.MOST; n++) {
            ArgSolver x = Frames.allAttackAll(n);
            for (int c = 0; c < n; c++) {
                String name = n + " claims: " + c;
                check.due(name + " in at first", x.play(c, 1), 1);
                check.due(name + " in, going out", x.play(c, 0), 1);
                check.due(name + " out, staying out", x.play(c, 0), 0);
                check.due(name + " out, coming in", x.play(c, Integer.MIN_VALUE), 0);
                check.due(name + " in, staying in", x.play(c, Integer.MAX_VALUE), 1);
                check.due(name + " in, going out for good", x.play(c, 0), 1);
            }
        }
    }
}
