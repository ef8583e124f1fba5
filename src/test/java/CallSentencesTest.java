import java.util.Arrays;

/** The sentences about calls of every method: how many, what they leave as it is, and which test comes first. */
public final class CallSentencesTest {
    private static final String WHAT = "What it is";
    private static final String TERMS = "Terms";
    private static final int LAST_CALL = 512;

    public static void main(String[] args) {
        Sentences all = new Sentences();
        all.test(WHAT, "An object is used for at most 512 calls after it has been made", CallSentencesTest::lastCall);
        all.test(TERMS, "No question changes anything.", CallSentencesTest::questionsChangeNothing);
        all.test(TERMS, "A refused call changes nothing.", CallSentencesTest::refusedChangesNothing);
        all.test(TERMS, "In every method the tests are made in the order named", CallSentencesTest::orderOfTests);
        all.test(TERMS, "a claim's number is good if it is 0 .. n-1 (in play or not)",
            CallSentencesTest::goodInPlayOrNot);
        all.end();
    }

    /** An object of 8 claims, 0 attacking 1, that has had all its calls but one. */
    private static ArgSolver withOneCallLeft() {
        ArgSolver x = new ArgSolver(8);
        for (int call = 1; call < LAST_CALL - 1; call += 3) {
            x.attack(call % 8, 0, 1);
            x.attack(call % 8, 0, 0);
            x.play(call % 8, 1);
        }
        x.attack(0, 1, 1);
        return x;
    }

    private static void lastCall(Check check) {
        check.due("last call claims", withOneCallLeft().claims(), 8);
        check.due("last call attack", withOneCallLeft().attack(0, 1, 0), 1);
        check.due("last call attacks", withOneCallLeft().attacks(0, 1), 1);
        check.due("last call play", withOneCallLeft().play(7, 0), 1);
        check.due("last call grounded", withOneCallLeft().grounded(), 253);
        check.due("last call groundedLabel", withOneCallLeft().groundedLabel(1), 1);
        check.due("last call is", withOneCallLeft().is(ArgSolver.STABLE, 253), 1);
        check.due("last call count", withOneCallLeft().count(ArgSolver.ADMISSIBLE), 128);
        check.due("last call nth", withOneCallLeft().nth(ArgSolver.ADMISSIBLE, 127), 253);
        check.due("last call possible", withOneCallLeft().possible(ArgSolver.STAGE, 1), 0);
        check.due("last call certain", withOneCallLeft().certain(ArgSolver.STAGE, 7), 1);
        check.due("last call core", withOneCallLeft().core(ArgSolver.SEMISTABLE), 253);
        check.due("last call range", withOneCallLeft().range(1), 3);
        check.due("last call defended", withOneCallLeft().defended(0), 253);
        check.due("last call ideal", withOneCallLeft().ideal(), 253);
    }

    /** All that can be seen of an object, in fewer than 110 calls. */
    private static int[] seen(ArgSolver x) {
        int[] answers = new int[128];
        int at = 0;
        int n = x.claims();
        answers[at++] = n;
        for (int a = 0; a < n; a++) {
            answers[at++] = x.groundedLabel(a);
            for (int b = 0; b < n; b++) {
                answers[at++] = x.attacks(a, b);
            }
        }
        for (int kind = 0; kind < Frames.KINDS; kind++) {
            answers[at++] = x.count(kind);
            answers[at++] = x.nth(kind, 0);
            answers[at++] = x.core(kind);
        }
        answers[at++] = x.grounded();
        answers[at++] = x.ideal();
        return answers;
    }

    /** A call with two arguments; those that take fewer leave some unused. */
    private interface Call {
        int ask(ArgSolver x, int p, int q);
    }

    /** Looks at all attacks and at who is in play, against what was made and not against another object. */
    private static void dueState(Check check, String name, ArgSolver x, int n, int which) {
        for (int c = 0; c < n; c++) {
            int inPlay = Frames.inPlayIn(n, which) >> c & 1;
            check.due(name + "in play " + c, x.range(1 << c) == -3 ? 0 : 1, inPlay);
            for (int b = 0; b < n; b++) {
                check.due(name + "attacks " + c + " " + b, x.attacks(c, b), Frames.attacksIn(n, which, c, b) ? 1 : 0);
            }
        }
    }

    private static void sameAfter(Check check, String call, Call made) {
        for (int n : new int[] {2, 5, 8}) {
            int[] values = {Integer.MIN_VALUE, -1, 0, 1, 2, n - 1, n, 5, 6, (1 << n) - 1, 1 << n, Integer.MAX_VALUE};
            for (int which = 0; which < Frames.STATES.length; which++) {
                String name = n + " claims, " + Frames.STATES[which] + ": after " + call;
                ArgSolver often = Frames.state(n, which);
                for (int p : values) {
                    for (int q : values) {
                        made.ask(often, p, q);
                        ArgSolver once = Frames.state(n, which);
                        made.ask(once, p, q);
                        dueState(check, name + "(" + p + ", " + q + "): ", once, n, which);
                    }
                }
                check.holds(name + " often", Arrays.equals(seen(often), seen(Frames.state(n, which))));
            }
        }
    }

    private static void questionsChangeNothing(Check check) {
        sameAfter(check, "claims", (x, p, q) -> x.claims());
        sameAfter(check, "attacks", (x, p, q) -> x.attacks(p, q));
        sameAfter(check, "grounded", (x, p, q) -> x.grounded());
        sameAfter(check, "groundedLabel", (x, p, q) -> x.groundedLabel(p));
        sameAfter(check, "is", (x, p, q) -> x.is(p, q));
        sameAfter(check, "count", (x, p, q) -> x.count(p));
        sameAfter(check, "nth", (x, p, q) -> x.nth(p, q));
        sameAfter(check, "possible", (x, p, q) -> x.possible(p, q));
        sameAfter(check, "certain", (x, p, q) -> x.certain(p, q));
        sameAfter(check, "core", (x, p, q) -> x.core(p));
        sameAfter(check, "range", (x, p, q) -> x.range(p));
        sameAfter(check, "defended", (x, p, q) -> x.defended(p));
        sameAfter(check, "ideal", (x, p, q) -> x.ideal());
    }

    /** Calls a change with every bad claim; each object has calls left for seen. */
    private static void sameAfterRefused(Check check, String call, int good, int flag, Call change) {
        for (int n = Frames.LEAST; n <= Frames.MOST; n++) {
            for (int which = 0; which < Frames.STATES.length; which++) {
                String name = n + " claims, " + Frames.STATES[which] + ": " + call + " with flag " + flag;
                ArgSolver x = Frames.state(n, which);
                for (int bad : Frames.badClaims(n)) {
                    check.due(name + " and " + bad, change.ask(x, bad, good < 0 ? n - 1 : good), -1);
                }
                check.holds(name + ": the same after", Arrays.equals(seen(x), seen(Frames.state(n, which))));
            }
        }
    }

    private static void refusedChangesNothing(Check check) {
        for (int flag : new int[] {0, 1, -1}) {
            for (int good = -1; good < 2; good++) {
                sameAfterRefused(check, "attack from a bad claim", good, flag, (x, p, q) -> x.attack(p, q, flag));
                sameAfterRefused(check, "attack on a bad claim", good, flag, (x, p, q) -> x.attack(q, p, flag));
            }
            sameAfterRefused(check, "attack among bad claims", 0, flag, (x, p, q) -> x.attack(p, p, flag));
            sameAfterRefused(check, "play", 0, flag, (x, p, q) -> x.play(p, flag));
        }
    }

    private static void orderOfTests(Check check) {
        Frames.everyState((name, n, x) -> {
            x.play(n - 1, 0);
            int out = 1 << (n - 1);
            for (int kind : new int[] {-1, 6, Integer.MIN_VALUE, Integer.MAX_VALUE}) {
                check.due(name + "is: kind before set " + kind, x.is(kind, 1 << n), -1);
                check.due(name + "is: kind before a negative set " + kind, x.is(kind, -1), -1);
                check.due(name + "is: kind before play " + kind, x.is(kind, out), -1);
                check.due(name + "is: kind before both " + kind, x.is(kind, (1 << n) + out), -1);
                check.due(name + "nth: kind before no such set " + kind, x.nth(kind, -1), -1);
                check.due(name + "nth: kind before too many " + kind, x.nth(kind, Integer.MAX_VALUE), -1);
                check.due(name + "possible: kind before claim " + kind, x.possible(kind, n), -1);
                check.due(name + "possible: kind before a negative claim " + kind, x.possible(kind, -1), -1);
                check.due(name + "certain: kind before claim " + kind, x.certain(kind, n), -1);
                check.due(name + "certain: kind before a negative claim " + kind, x.certain(kind, -1), -1);
                check.due(name + "core: kind before no set " + kind, x.core(kind), -1);
            }
            for (int set : new int[] {(1 << n) + out, -1, -out, Integer.MAX_VALUE}) {
                for (int kind = 0; kind < Frames.KINDS; kind++) {
                    check.due(name + "is " + kind + ": number before play " + set, x.is(kind, set), -2);
                }
                check.due(name + "range: number before play " + set, x.range(set), -2);
                check.due(name + "defended: number before play " + set, x.defended(set), -2);
            }
            Frames.without(x, Frames.full(n));
            check.due(name + "groundedLabel: number before play", x.groundedLabel(n), -1);
            check.due(name + "groundedLabel: negative number before play", x.groundedLabel(-1), -1);
        });
    }

    private static void goodInPlayOrNot(Check check) {
        for (int n = Frames.LEAST; n <= Frames.MOST; n++) {
            for (int c = 0; c < n; c++) {
                String name = n + " claims, none in play: " + c;
                ArgSolver x = Frames.without(new ArgSolver(n), Frames.full(n));
                check.due(name + " attack", x.attack(c, n - 1 - c, 1), 0);
                check.due(name + " attack again", x.attack(c, n - 1 - c, 1), 1);
                check.due(name + " attacks", x.attacks(c, n - 1 - c), 1);
                check.due(name + " possible", x.possible(ArgSolver.STABLE, c), 0);
                check.due(name + " certain", x.certain(ArgSolver.STABLE, c), 0);
                check.due(name + " groundedLabel", x.groundedLabel(c), -2);
                check.due(name + " play", x.play(c, 1), 0);
            }
        }
    }
}
