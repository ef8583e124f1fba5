/** Each promise by hand: ordinary inputs, the edges that the document names, and wrong inputs. */
public final class PromiseTest {
    private static final int[] BAD_CLAIMS = {-1, 4, 8, 32, Integer.MIN_VALUE, Integer.MAX_VALUE};
    private static final int[] BAD_KINDS = {-1, 6, Integer.MIN_VALUE, Integer.MAX_VALUE};
    private static final int[] BAD_SETS = {-1, 16, 17, 256, Integer.MIN_VALUE, Integer.MAX_VALUE};

    private static final Check CHECK = new Check();

    public static void main(String[] args) {
        newObject();
        claims();
        attack();
        attacks();
        play();
        grounded();
        groundedLabel();
        is();
        count();
        nth();
        possible();
        certain();
        core();
        range();
        defended();
        ideal();
        noClaimInPlay();
        questionsChangeNothing();
        CHECK.end();
    }

    private static void due(String call, int got, int want) {
        CHECK.due(call, got, want);
    }

    /** Four claims: 0 and 1 attack each other, both attack 2, and 2 attacks 3. */
    private static ArgSolver floating() {
        ArgSolver x = new ArgSolver(4);
        x.attack(0, 1, 1);
        x.attack(1, 0, 1);
        x.attack(0, 2, 1);
        x.attack(1, 2, 1);
        x.attack(2, 3, 1);
        return x;
    }

    /** Four claims: 0 attacks 1, 1 attacks 2, 2 attacks 3. */
    private static ArgSolver chain() {
        ArgSolver x = new ArgSolver(4);
        x.attack(0, 1, 1);
        x.attack(1, 2, 1);
        x.attack(2, 3, 1);
        return x;
    }

    /** Four claims: 0, 1 and 2 attack one another in a ring, 3 stands alone. */
    private static ArgSolver ring() {
        ArgSolver x = new ArgSolver(4);
        x.attack(0, 1, 1);
        x.attack(1, 2, 1);
        x.attack(2, 0, 1);
        return x;
    }

    private static void newObject() {
        int[] asked = {Integer.MIN_VALUE, -1, 0, 1, 2, 3, 4, 5, 6, 7, 8, 9, Integer.MAX_VALUE};
        int[] made = {2, 2, 2, 2, 2, 3, 4, 5, 6, 7, 8, 8, 8};
        for (int k = 0; k < asked.length; k++) {
            ArgSolver x = new ArgSolver(asked[k]);
            int n = made[k];
            int all = (1 << n) - 1;
            String name = "new ArgSolver(" + asked[k] + ")";
            due(name + " claims", x.claims(), n);
            due(name + " grounded", x.grounded(), all);
            due(name + " set within", x.is(ArgSolver.STABLE, all), 1);
            due(name + " set outside", x.is(ArgSolver.STABLE, all + 1), -2);
            for (int a = 0; a < n; a++) {
                due(name + " in play " + a, x.play(a, 1), 1);
                for (int b = 0; b < n; b++) {
                    due(name + " no attack " + a + " " + b, x.attacks(a, b), 0);
                }
            }
            due(name + " claim outside", x.play(n, 0), -1);
        }
    }

    private static void claims() {
        ArgSolver x = new ArgSolver(4);
        due("claims", x.claims(), 4);
        x.play(0, 0);
        x.attack(1, 2, 1);
        due("claims with one out of play", x.claims(), 4);
    }

    private static void attack() {
        ArgSolver x = new ArgSolver(4);
        due("attack first", x.attack(0, 1, 1), 0);
        due("attack again", x.attack(0, 1, -7), 1);
        due("attack ended", x.attack(0, 1, 0), 1);
        due("attack ended again", x.attack(0, 1, 0), 0);
        due("attack other flag", x.attack(0, 1, Integer.MIN_VALUE), 0);
        due("attack one way", x.attacks(1, 0), 0);
        due("attack itself", x.attack(3, 3, 2), 0);
        due("attack itself again", x.attack(3, 3, 0), 1);
        x.play(2, 0);
        due("attack out of play", x.attack(2, 0, 1), 0);
        due("attack out of play again", x.attack(2, 0, 1), 1);
        due("attack out of play has no effect", x.grounded(), 0b1001);
        x.play(2, 1);
        due("attack back in play", x.grounded(), 0b1110);
        for (int bad : BAD_CLAIMS) {
            due("attack(" + bad + ", 0, 1)", x.attack(bad, 0, 1), -1);
            due("attack(0, " + bad + ", 1)", x.attack(0, bad, 1), -1);
            due("attack(2, " + bad + ", 0)", x.attack(2, bad, 0), -1);
            due("attack(" + bad + ", 1, 0)", x.attack(bad, 1, 0), -1);
        }
        for (int a = 0; a < 4; a++) {
            for (int b = 0; b < 4; b++) {
                int want = (a == 0 && b == 1) || (a == 2 && b == 0) ? 1 : 0;
                due("after refusals attacks(" + a + ", " + b + ")", x.attacks(a, b), want);
            }
        }
    }

    private static void attacks() {
        ArgSolver x = chain();
        x.attack(3, 3, 1);
        due("attacks(0, 1)", x.attacks(0, 1), 1);
        due("attacks(1, 0)", x.attacks(1, 0), 0);
        due("attacks(3, 3)", x.attacks(3, 3), 1);
        due("attacks(0, 0)", x.attacks(0, 0), 0);
        x.play(1, 0);
        due("attacks to one out of play", x.attacks(0, 1), 1);
        due("attacks from one out of play", x.attacks(1, 2), 1);
        due("no attack between", x.attacks(1, 3), 0);
        for (int bad : BAD_CLAIMS) {
            due("attacks(" + bad + ", 0)", x.attacks(bad, 0), -1);
            due("attacks(0, " + bad + ")", x.attacks(0, bad), -1);
        }
    }

    private static void play() {
        ArgSolver x = chain();
        due("play in, was in", x.play(0, 5), 1);
        due("play out", x.play(0, 0), 1);
        due("play out again", x.play(0, 0), 0);
        due("grounded without 0", x.grounded(), 0b1010);
        due("play in", x.play(0, -1), 0);
        due("play in again", x.play(0, Integer.MIN_VALUE), 1);
        due("attacks are kept", x.grounded(), 0b0101);
        for (int bad : BAD_CLAIMS) {
            due("play(" + bad + ", 0)", x.play(bad, 0), -1);
            due("play(" + bad + ", 1)", x.play(bad, 1), -1);
        }
        due("refused play changes nothing", x.grounded(), 0b0101);
    }

    private static void grounded() {
        due("grounded of a chain", chain().grounded(), 0b0101);
        due("grounded of a ring", ring().grounded(), 0b1000);
        due("grounded of floating", floating().grounded(), 0);
        ArgSolver x = new ArgSolver(8);
        for (int c = 7; c > 0; c--) {
            x.attack(c, c - 1, 1);
        }
        due("grounded of a long chain", x.grounded(), 0b10101010);
        x.play(7, 0);
        due("grounded of a long chain cut", x.grounded(), 0b01010101);
        x.attack(6, 6, 1);
        due("grounded with a self-attack at the head", x.grounded(), 0);
    }

    private static void groundedLabel() {
        ArgSolver x = chain();
        due("groundedLabel(0)", x.groundedLabel(0), 0);
        due("groundedLabel(1)", x.groundedLabel(1), 1);
        due("groundedLabel(2)", x.groundedLabel(2), 0);
        due("groundedLabel(3)", x.groundedLabel(3), 1);
        x.attack(0, 0, 1);
        due("groundedLabel(0), self-attack", x.groundedLabel(0), 2);
        due("groundedLabel(1), left open", x.groundedLabel(1), 2);
        x.play(0, 0);
        due("groundedLabel(0), out of play", x.groundedLabel(0), -2);
        due("groundedLabel(1), free", x.groundedLabel(1), 0);
        for (int bad : BAD_CLAIMS) {
            due("groundedLabel(" + bad + ")", x.groundedLabel(bad), -1);
        }
    }

    /** Looks at a kind's sets through is, count and nth. */
    private static void sets(String name, ArgSolver x, int kind, int... want) {
        int next = 0;
        int all = 1 << x.claims();
        for (int set = 0; set < all; set++) {
            boolean due = next < want.length && want[next] == set;
            int got = x.is(kind, set);
            due(name + " is(" + kind + ", " + set + ")", got == -3 ? 0 : got, due ? 1 : 0);
            if (due) {
                due(name + " nth(" + kind + ", " + next + ")", x.nth(kind, next), set);
                next++;
            }
        }
        due(name + " count(" + kind + ")", x.count(kind), want.length);
        due(name + " nth past the last", x.nth(kind, want.length), -2);
    }

    private static void is() {
        sets("floating", floating(), ArgSolver.ADMISSIBLE, 0, 1, 2, 9, 10);
        sets("floating", floating(), ArgSolver.COMPLETE, 0, 9, 10);
        sets("floating", floating(), ArgSolver.PREFERRED, 9, 10);
        sets("floating", floating(), ArgSolver.STABLE, 9, 10);
        sets("floating", floating(), ArgSolver.STAGE, 9, 10);
        sets("floating", floating(), ArgSolver.SEMISTABLE, 9, 10);
        sets("ring", ring(), ArgSolver.ADMISSIBLE, 0, 8);
        sets("ring", ring(), ArgSolver.COMPLETE, 8);
        sets("ring", ring(), ArgSolver.PREFERRED, 8);
        sets("ring", ring(), ArgSolver.STABLE);
        sets("ring", ring(), ArgSolver.STAGE, 9, 10, 12);
        sets("ring", ring(), ArgSolver.SEMISTABLE, 8);
        preferredButNotSemistable();
        outOfPlay();
        ArgSolver x = chain();
        x.play(3, 0);
        for (int bad : BAD_KINDS) {
            due("is(" + bad + ", 0)", x.is(bad, 0), -1);
            due("is(" + bad + ", -1)", x.is(bad, -1), -1);
            due("is(" + bad + ", 8)", x.is(bad, 8), -1);
        }
        for (int kind = 0; kind < 6; kind++) {
            for (int bad : BAD_SETS) {
                due("is(" + kind + ", " + bad + ")", x.is(kind, bad), -2);
            }
            due("is(" + kind + ", 8), out of play", x.is(kind, 8), -3);
            due("is(" + kind + ", 15), out of play", x.is(kind, 15), -3);
            due("is(" + kind + ", 24), too great before out of play", x.is(kind, 24), -2);
        }
    }

    /** 0 and 1 attack each other; 1 attacks 2, which attacks itself: 0 holds, yet leaves 2 open. */
    private static void preferredButNotSemistable() {
        ArgSolver x = new ArgSolver(3);
        x.attack(0, 1, 1);
        x.attack(1, 0, 1);
        x.attack(1, 2, 1);
        x.attack(2, 2, 1);
        sets("open", x, ArgSolver.COMPLETE, 0, 1, 2);
        sets("open", x, ArgSolver.PREFERRED, 1, 2);
        sets("open", x, ArgSolver.STABLE, 2);
        sets("open", x, ArgSolver.STAGE, 2);
        sets("open", x, ArgSolver.SEMISTABLE, 2);
    }

    private static void outOfPlay() {
        ArgSolver x = floating();
        x.play(1, 0);
        sets("floating without 1", x, ArgSolver.ADMISSIBLE, 0, 1, 9);
        sets("floating without 1", x, ArgSolver.COMPLETE, 9);
        ArgSolver y = ring();
        y.play(2, 0);
        sets("ring without 2", y, ArgSolver.STABLE, 9);
        sets("ring without 2", y, ArgSolver.STAGE, 9);
        sets("ring without 2", y, ArgSolver.SEMISTABLE, 9);
    }

    private static void count() {
        ArgSolver x = new ArgSolver(8);
        int[] want = {256, 1, 1, 1, 1, 1};
        for (int kind = 0; kind < 6; kind++) {
            due("count(" + kind + ") without attacks", x.count(kind), want[kind]);
        }
        due("no stable set", ring().count(ArgSolver.STABLE), 0);
        for (int bad : BAD_KINDS) {
            due("count(" + bad + ")", x.count(bad), -1);
        }
    }

    private static void nth() {
        ArgSolver x = new ArgSolver(8);
        for (int i = 0; i < 256; i++) {
            due("nth(0, " + i + ") without attacks", x.nth(ArgSolver.ADMISSIBLE, i), i);
        }
        for (int kind = 0; kind < 6; kind++) {
            for (int i : new int[] {-1, 256, Integer.MIN_VALUE, Integer.MAX_VALUE}) {
                due("nth(" + kind + ", " + i + ")", x.nth(kind, i), -2);
            }
        }
        due("nth of no stable set", ring().nth(ArgSolver.STABLE, 0), -2);
        for (int bad : BAD_KINDS) {
            due("nth(" + bad + ", 0)", x.nth(bad, 0), -1);
            due("nth(" + bad + ", -1)", x.nth(bad, -1), -1);
        }
    }

    private static void possible() {
        ArgSolver x = floating();
        due("possible(2, 0)", x.possible(ArgSolver.PREFERRED, 0), 1);
        due("possible(2, 1)", x.possible(ArgSolver.PREFERRED, 1), 1);
        due("possible(2, 2)", x.possible(ArgSolver.PREFERRED, 2), 0);
        due("possible(2, 3)", x.possible(ArgSolver.PREFERRED, 3), 1);
        x.play(3, 0);
        due("possible out of play", x.possible(ArgSolver.PREFERRED, 3), 0);
        due("possible without a set", ring().possible(ArgSolver.STABLE, 3), 0);
        for (int bad : BAD_KINDS) {
            due("possible(" + bad + ", 0)", x.possible(bad, 0), -1);
            due("possible(" + bad + ", -1)", x.possible(bad, -1), -1);
        }
        for (int kind = 0; kind < 6; kind++) {
            for (int bad : BAD_CLAIMS) {
                due("possible(" + kind + ", " + bad + ")", x.possible(kind, bad), -2);
            }
        }
    }

    private static void certain() {
        ArgSolver x = floating();
        due("certain(2, 0)", x.certain(ArgSolver.PREFERRED, 0), 0);
        due("certain(2, 2)", x.certain(ArgSolver.PREFERRED, 2), 0);
        due("certain(2, 3)", x.certain(ArgSolver.PREFERRED, 3), 1);
        due("certain(0, 3)", x.certain(ArgSolver.ADMISSIBLE, 3), 0);
        x.play(3, 0);
        due("certain out of play", x.certain(ArgSolver.PREFERRED, 3), 0);
        ArgSolver y = ring();
        for (int c = 0; c < 4; c++) {
            due("certain without a set " + c, y.certain(ArgSolver.STABLE, c), 1);
        }
        y.play(3, 0);
        due("certain without a set, out of play", y.certain(ArgSolver.STABLE, 3), 1);
        for (int bad : BAD_KINDS) {
            due("certain(" + bad + ", 0)", x.certain(bad, 0), -1);
            due("certain(" + bad + ", -1)", x.certain(bad, -1), -1);
        }
        for (int kind = 0; kind < 6; kind++) {
            for (int bad : BAD_CLAIMS) {
                due("certain(" + kind + ", " + bad + ")", x.certain(kind, bad), -2);
                due("certain(" + kind + ", " + bad + ") of none", y.certain(kind, bad), -2);
            }
        }
    }

    private static void core() {
        int[] want = {0, 0, 8, 8, 8, 8};
        for (int kind = 0; kind < 6; kind++) {
            due("core(" + kind + ") of floating", floating().core(kind), want[kind]);
        }
        ArgSolver x = ring();
        due("core(3) of a ring", x.core(ArgSolver.STABLE), -2);
        due("core(4) of a ring", x.core(ArgSolver.STAGE), 8);
        x.play(3, 0);
        due("core(4) of a ring alone", x.core(ArgSolver.STAGE), 0);
        for (int bad : BAD_KINDS) {
            due("core(" + bad + ")", x.core(bad), -1);
        }
    }

    private static void range() {
        ArgSolver x = floating();
        due("range(0)", x.range(0), 0);
        due("range(1)", x.range(1), 0b0111);
        due("range(4)", x.range(4), 0b1100);
        due("range(5), not peaceful", x.range(5), 0b1111);
        x.play(2, 0);
        due("range(1) without 2", x.range(1), 0b0011);
        due("range(4) out of play", x.range(4), -3);
        due("range(15) out of play", x.range(15), -3);
        due("range(20) too great", x.range(20), -2);
        for (int bad : BAD_SETS) {
            due("range(" + bad + ")", x.range(bad), -2);
        }
    }

    private static void defended() {
        ArgSolver x = floating();
        due("defended(0)", x.defended(0), 0);
        due("defended(1)", x.defended(1), 0b1001);
        due("defended(2)", x.defended(2), 0b1010);
        due("defended(3), not peaceful", x.defended(3), 0b1111);
        due("defended(4)", x.defended(4), 0);
        x.play(1, 0);
        due("defended(0) without 1", x.defended(0), 0b0001);
        due("defended(1) without 1", x.defended(1), 0b1001);
        due("defended(2) out of play", x.defended(2), -3);
        due("defended(15) out of play", x.defended(15), -3);
        due("defended(18) too great", x.defended(18), -2);
        for (int bad : BAD_SETS) {
            due("defended(" + bad + ")", x.defended(bad), -2);
        }
    }

    private static void ideal() {
        due("ideal of a chain", chain().ideal(), 0b0101);
        due("ideal of a ring", ring().ideal(), 0b1000);
        // 3 is in every preferred set, but nothing in all of them defends it.
        due("ideal of floating", floating().ideal(), 0);
        // 0 and 1 attack each other and 1 itself: {0} is not grounded, yet in the one preferred set.
        ArgSolver x = new ArgSolver(3);
        x.attack(0, 1, 1);
        x.attack(1, 0, 1);
        x.attack(1, 1, 1);
        x.attack(1, 2, 1);
        due("grounded beside ideal", x.grounded(), 0);
        due("ideal beyond grounded", x.ideal(), 0b101);
        x.play(2, 0);
        due("ideal without 2", x.ideal(), 0b001);
    }

    private static void noClaimInPlay() {
        ArgSolver x = floating();
        for (int c = 0; c < 4; c++) {
            x.play(c, 0);
        }
        due("nothing in play: grounded", x.grounded(), 0);
        due("nothing in play: ideal", x.ideal(), 0);
        due("nothing in play: range", x.range(0), 0);
        due("nothing in play: defended", x.defended(0), 0);
        for (int kind = 0; kind < 6; kind++) {
            due("nothing in play: count(" + kind + ")", x.count(kind), 1);
            due("nothing in play: nth(" + kind + ", 0)", x.nth(kind, 0), 0);
            due("nothing in play: core(" + kind + ")", x.core(kind), 0);
            due("nothing in play: is(" + kind + ", 0)", x.is(kind, 0), 1);
            due("nothing in play: is(" + kind + ", 1)", x.is(kind, 1), -3);
        }
    }

    private static int allAnswers(ArgSolver x) {
        int sum = x.claims();
        for (int kind = 0; kind < 6; kind++) {
            sum = sum * 31 + x.count(kind);
            sum = sum * 31 + x.nth(kind, 1);
            sum = sum * 31 + x.possible(kind, 3);
            sum = sum * 31 + x.certain(kind, 3);
            sum = sum * 31 + x.core(kind);
            sum = sum * 31 + x.is(kind, 9);
        }
        for (int a = 0; a < 4; a++) {
            sum = sum * 31 + x.groundedLabel(a);
            for (int b = 0; b < 4; b++) {
                sum = sum * 31 + x.attacks(a, b);
            }
        }
        sum = sum * 31 + x.range(1);
        sum = sum * 31 + x.defended(1);
        sum = sum * 31 + x.grounded();
        return sum * 31 + x.ideal();
    }

    private static void questionsChangeNothing() {
        ArgSolver x = floating();
        x.play(2, 0);
        int first = allAnswers(x);
        due("the same answers again", allAnswers(x), first);
        x.attack(4, 0, 1);
        x.attack(0, -1, 0);
        x.play(-1, 0);
        x.play(4, 0);
        due("the same answers after refused calls", allAnswers(x), first);
    }
}
