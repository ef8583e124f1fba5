/**
 * Every question about many frameworks, compared with Definitions: all frameworks of 2 and 3 claims with every
 * choice of claims in play, and a fixed row of frameworks of 4 to 8 claims.
 *
 * An object is promised 512 calls, so each group of questions has a new one.
 */
public final class AgainstDefinitionsTest {
    private static final Check CHECK = new Check();
    private static long state = 20261115L;

    public static void main(String[] args) {
        for (int n = 2; n <= 3; n++) {
            for (int bits = 0; bits < 1 << (n * n); bits++) {
                for (int play = 0; play < 1 << n; play++) {
                    compare(n, bits, play);
                }
            }
        }
        for (int n = 4; n <= 8; n++) {
            for (int k = 0; k < 60; k++) {
                compare(n, someAttacks(n, 1 + k % 4), k % 3 == 0 ? (1 << n) - 1 : next(1 << n));
            }
        }
        CHECK.end();
    }

    /** A fixed row of numbers, the same on every run. */
    private static int next(int bound) {
        state = state * 6364136223846793005L + 1442695040888963407L;
        return (int) ((state >>> 33) % bound);
    }

    private static long someAttacks(int n, int eighths) {
        long bits = 0;
        for (int k = 0; k < n * n; k++) {
            boolean self = k / n == k % n;
            int chance = self ? 1 : eighths;
            if (next(8) < chance) {
                bits |= 1L << k;
            }
        }
        return bits;
    }

    private static ArgSolver make(int n, long bits, int play) {
        ArgSolver x = new ArgSolver(n);
        for (int k = 0; k < n * n; k++) {
            if ((bits >> k & 1) != 0) {
                x.attack(k / n, k % n, 1);
            }
        }
        for (int c = 0; c < n; c++) {
            if ((play >> c & 1) == 0) {
                x.play(c, 0);
            }
        }
        return x;
    }

    private static Definitions define(int n, long bits, int play) {
        boolean[][] attack = new boolean[n][n];
        boolean[] inPlay = new boolean[n];
        for (int a = 0; a < n; a++) {
            inPlay[a] = (play >> a & 1) != 0;
            for (int b = 0; b < n; b++) {
                attack[a][b] = (bits >> (a * n + b) & 1) != 0;
            }
        }
        return new Definitions(n, attack, inPlay);
    }

    private static void compare(int n, long bits, int play) {
        Definitions want = define(n, bits, play);
        String name = "n " + n + " attacks " + bits + " play " + play + ": ";
        claimsAndGrounded(name, make(n, bits, play), want);
        ArgSolver forRange = make(n, bits, play);
        ArgSolver forDefended = make(n, bits, play);
        for (int set = 0; set < 1 << n; set++) {
            boolean isSet = want.isSet(set);
            CHECK.due(name + "range " + set, forRange.range(set), isSet ? want.range(set) : -3);
            CHECK.due(name + "defended " + set, forDefended.defended(set), isSet ? want.defended(set) : -3);
        }
        for (int kind = 0; kind < 6; kind++) {
            membership(name, make(n, bits, play), want, kind);
            summary(name, make(n, bits, play), want, kind);
        }
    }

    private static void claimsAndGrounded(String name, ArgSolver x, Definitions want) {
        CHECK.due(name + "claims", x.claims(), want.n);
        int grounded = want.grounded();
        CHECK.due(name + "grounded", x.grounded(), grounded);
        CHECK.due(name + "ideal", x.ideal(), want.ideal());
        for (int c = 0; c < want.n; c++) {
            int label = Definitions.has(grounded, c) ? 0 : want.attacks(grounded, c) ? 1 : 2;
            CHECK.due(name + "groundedLabel " + c, x.groundedLabel(c), want.inPlay[c] ? label : -2);
            for (int b = 0; b < want.n; b++) {
                CHECK.due(name + "attacks " + c + " " + b, x.attacks(c, b), want.attack[c][b] ? 1 : 0);
            }
        }
    }

    private static void membership(String name, ArgSolver x, Definitions want, int kind) {
        for (int set = 0; set < 1 << want.n; set++) {
            int due = !want.isSet(set) ? -3 : want.ofKind[kind][set] ? 1 : 0;
            CHECK.due(name + "is " + kind + " " + set, x.is(kind, set), due);
        }
    }

    private static void summary(String name, ArgSolver x, Definitions want, int kind) {
        int found = 0;
        int some = 0;
        int every = (1 << want.n) - 1;
        for (int set = 0; set < 1 << want.n; set++) {
            if (want.ofKind[kind][set]) {
                CHECK.due(name + "nth " + kind + " " + found, x.nth(kind, found), set);
                found++;
                some |= set;
                every &= set;
            }
        }
        CHECK.due(name + "nth past the last " + kind, x.nth(kind, found), -2);
        CHECK.due(name + "count " + kind, x.count(kind), found);
        CHECK.due(name + "core " + kind, x.core(kind), found == 0 ? -2 : every);
        for (int c = 0; c < want.n; c++) {
            CHECK.due(name + "possible " + kind + " " + c, x.possible(kind, c), Definitions.has(some, c) ? 1 : 0);
            CHECK.due(name + "certain " + kind + " " + c, x.certain(kind, c), Definitions.has(every, c) ? 1 : 0);
        }
    }
}
