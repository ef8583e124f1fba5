/** Frameworks at the edges, for objects of every size, and arguments that are wrong for them. */
final class Frames {
    static final int LEAST = 2;
    static final int MOST = 8;
    static final int KINDS = 6;
    static final String[] STATES = {
        "no attacks", "chain", "ring", "all attack themselves", "all attack all", "chain without the last",
        "all attack all, every other out of play", "chain with none in play",
    };

    /** What is done with an object of n claims; name says which it is. */
    interface Use {
        void on(String name, int n, ArgSolver x);
    }

    private Frames() {
    }

    /** Every state with every size, each on a new object. */
    static void everyState(Use use) {
        for (int n = LEAST; n <= MOST; n++) {
            for (int which = 0; which < STATES.length; which++) {
                use.on(n + " claims, " + STATES[which] + ": ", n, state(n, which));
            }
        }
    }

    /** Every framework of 2 and of 3 claims with every choice of claims in play, each on a new object. */
    static void everySmallFramework(Use use) {
        for (int n = LEAST; n <= 3; n++) {
            for (int bits = 0; bits < 1 << (n * n); bits++) {
                for (int play = 0; play < 1 << n; play++) {
                    ArgSolver x = new ArgSolver(n);
                    for (int k = 0; k < n * n; k++) {
                        x.attack(k / n, k % n, bits >> k & 1);
                    }
                    for (int c = 0; c < n; c++) {
                        x.play(c, play >> c & 1);
                    }
                    use.on(n + " claims, attacks " + bits + ", in play " + play + ": ", n, x);
                }
            }
        }
    }

    static ArgSolver state(int n, int which) {
        ArgSolver x = new ArgSolver(n);
        for (int a = 0; a < n; a++) {
            for (int b = 0; b < n; b++) {
                if (attacksIn(n, which, a, b)) {
                    x.attack(a, b, 1);
                }
            }
        }
        return without(x, full(n) - inPlayIn(n, which));
    }

    /** Whether a attacks b in a state, told without asking an object. */
    static boolean attacksIn(int n, int which, int a, int b) {
        switch (which) {
            case 0:
                return false;
            case 2:
                return b == (a + 1) % n;
            case 3:
                return a == b;
            case 4:
            case 6:
                return true;
            default:
                return b == a + 1;
        }
    }

    /** The claims in play in a state, told without asking an object. */
    static int inPlayIn(int n, int which) {
        switch (which) {
            case 5:
                return full(n) - (1 << (n - 1));
            case 6:
                return evens(n);
            case 7:
                return 0;
            default:
                return full(n);
        }
    }

    static int full(int n) {
        return (1 << n) - 1;
    }

    /** The sum of 2^c over the even claims below n. */
    static int evens(int n) {
        return 0b01010101 & full(n);
    }

    /** 0 attacks 1, 1 attacks 2, and so on. */
    static ArgSolver chain(int n) {
        return state(n, 1);
    }

    /** A chain whose last claim attacks the first. */
    static ArgSolver ring(int n) {
        return state(n, 2);
    }

    static ArgSolver allAttackThemselves(int n) {
        return state(n, 3);
    }

    static ArgSolver allAttackAll(int n) {
        return state(n, 4);
    }

    /** 0 and 1 attack each other and 2, which attacks 3: each preferred set contains 3 and one of its defenders. */
    static ArgSolver floating() {
        return with(4, 0, 1, 1, 0, 0, 2, 1, 2, 2, 3);
    }

    /** An object of n claims with the attacks told as pairs. */
    static ArgSolver with(int n, int... pairs) {
        ArgSolver x = new ArgSolver(n);
        for (int k = 0; k + 1 < pairs.length; k += 2) {
            x.attack(pairs[k], pairs[k + 1], 1);
        }
        return x;
    }

    static ArgSolver without(ArgSolver x, int out) {
        for (int c = 0; c < x.claims(); c++) {
            if ((out >> c & 1) != 0) {
                x.play(c, 0);
            }
        }
        return x;
    }

    /** Numbers that name no claim of n; those from 32 on would wrap around to a claim in a shift. */
    static int[] badClaims(int n) {
        return new int[] {
            Integer.MIN_VALUE, Integer.MIN_VALUE + 1, -256, -32, -31, -n, -1, n, 8, 9, 31, 32, 33, 31 + n, 64, 256,
            Integer.MAX_VALUE - 31, Integer.MAX_VALUE,
        };
    }

    static int[] badKinds() {
        return new int[] {
            Integer.MIN_VALUE, Integer.MIN_VALUE + 1, -256, -6, -5, -1, 6, 7, 8, 16, 256, 261, 65536,
            Integer.MAX_VALUE,
        };
    }

    /** Numbers that are no set of n claims; many have only zeros, or only good members, in their low places. */
    static int[] badSets(int n) {
        int all = 1 << n;
        return new int[] {
            Integer.MIN_VALUE, Integer.MIN_VALUE + 1, -65536, -256, -all, -2, -1, all, all + 1, 2 * all - 1, 256, 257,
            65536, 65537, 1 << 30, Integer.MAX_VALUE,
        };
    }
}
