public final class ArgSolver {
    public static final int ADMISSIBLE = 0;
    public static final int COMPLETE = 1;
    public static final int PREFERRED = 2;
    public static final int STABLE = 3;
    public static final int STAGE = 4;
    public static final int SEMISTABLE = 5;

    private static final int LEAST_CLAIMS = 2;
    private static final int MOST_CLAIMS = 8;

    private final int claimCount;
    private final int setCount;
    // Kept for claims out of play too, so that they have their attacks again on their return.
    private final int[] targets = new int[MOST_CLAIMS];
    private int inPlay;

    public ArgSolver(int claims) {
        int n = claims;
        if (n < LEAST_CLAIMS) {
            n = LEAST_CLAIMS;
        }
        if (n > MOST_CLAIMS) {
            n = MOST_CLAIMS;
        }
        claimCount = n;
        setCount = 1 << n;
        inPlay = setCount - 1;
    }

    public int claims() {
        return claimCount;
    }

    public int attack(int a, int b, int flag) {
        int before = attacks(a, b);
        if (before < 0) {
            return before;
        }
        if (flag != 0) {
            targets[a] |= 1 << b;
        } else {
            targets[a] &= ~(1 << b);
        }
        return before;
    }

    public int attacks(int a, int b) {
        if (!isGood(a) || !isGood(b)) {
            return -1;
        }
        return (targets[a] >> b) & 1;
    }

    public int play(int c, int flag) {
        if (!isGood(c)) {
            return -1;
        }
        int before = (inPlay >> c) & 1;
        if (flag != 0) {
            inPlay |= 1 << c;
        } else {
            inPlay &= ~(1 << c);
        }
        return before;
    }

    public int grounded() {
        int set = 0;
        // Each round adds a claim or changes nothing for good, so as many rounds as claims are enough.
        for (int round = 0; round < claimCount; round++) {
            set = defendedBy(set);
        }
        return set;
    }

    public int groundedLabel(int c) {
        if (!isGood(c)) {
            return -1;
        }
        if (!contains(inPlay, c)) {
            return -2;
        }
        int set = grounded();
        if (contains(set, c)) {
            return 0;
        }
        int attacked = attackedBy(set);
        return contains(attacked, c) ? 1 : 2;
    }

    public int is(int kind, int set) {
        if (!isKind(kind)) {
            return -1;
        }
        int fault = faultOf(set);
        if (fault != 0) {
            return fault;
        }
        return isOfKind(kind, set) ? 1 : 0;
    }

    public int count(int kind) {
        if (!isKind(kind)) {
            return -1;
        }
        int found = 0;
        for (int set = 0; set < setCount; set++) {
            if (isOfKind(kind, set)) {
                found++;
            }
        }
        return found;
    }

    public int nth(int kind, int i) {
        if (!isKind(kind)) {
            return -1;
        }
        int found = 0;
        for (int set = 0; set < setCount; set++) {
            if (isOfKind(kind, set)) {
                if (found == i) {
                    return set;
                }
                found++;
            }
        }
        return -2;
    }

    public int possible(int kind, int c) {
        if (!isKind(kind)) {
            return -1;
        }
        if (!isGood(c)) {
            return -2;
        }
        for (int set = 0; set < setCount; set++) {
            if (contains(set, c) && isOfKind(kind, set)) {
                return 1;
            }
        }
        return 0;
    }

    public int certain(int kind, int c) {
        if (!isKind(kind)) {
            return -1;
        }
        if (!isGood(c)) {
            return -2;
        }
        for (int set = 0; set < setCount; set++) {
            if (!contains(set, c) && isOfKind(kind, set)) {
                return 0;
            }
        }
        return 1;
    }

    public int core(int kind) {
        if (!isKind(kind)) {
            return -1;
        }
        int common = inPlay;
        boolean none = true;
        for (int set = 0; set < setCount; set++) {
            if (isOfKind(kind, set)) {
                common &= set;
                none = false;
            }
        }
        return none ? -2 : common;
    }

    public int range(int set) {
        int fault = faultOf(set);
        return fault != 0 ? fault : rangeOf(set);
    }

    public int defended(int set) {
        int fault = faultOf(set);
        return fault != 0 ? fault : defendedBy(set);
    }

    public int ideal() {
        int common = inPlay;
        for (int set = 0; set < setCount; set++) {
            if (isPreferred(set)) {
                common &= set;
            }
        }
        int greatest = 0;
        // The one that contains all others has the greatest number, so it comes last.
        for (int set = 0; set < setCount; set++) {
            if (isPart(set, common) && isAdmissible(set)) {
                greatest = set;
            }
        }
        return greatest;
    }

    private boolean isGood(int c) {
        return c >= 0 && c < claimCount;
    }

    private boolean isKind(int kind) {
        return kind >= ADMISSIBLE && kind <= SEMISTABLE;
    }

    private int faultOf(int set) {
        if (set < 0 || set >= setCount) {
            return -2;
        }
        return isPart(set, inPlay) ? 0 : -3;
    }

    private boolean contains(int set, int c) {
        return ((set >> c) & 1) != 0;
    }

    private boolean isPart(int part, int whole) {
        return (part & ~whole) == 0;
    }

    private boolean isProperPart(int part, int whole) {
        return part != whole && isPart(part, whole);
    }

    private int attackedBy(int set) {
        int attacked = 0;
        for (int c = 0; c < claimCount; c++) {
            // Written out, because a call of contains from here would be the seventh in a row.
            if (((set >> c) & 1) != 0) {
                attacked |= targets[c];
            }
        }
        return attacked & inPlay;
    }

    private int rangeOf(int set) {
        return set | attackedBy(set);
    }

    private int defendedBy(int set) {
        int unanswered = inPlay & ~attackedBy(set);
        // A claim is left undefended exactly if one that the set does not attack attacks it.
        return inPlay & ~attackedBy(unanswered);
    }

    private boolean isOfKind(int kind, int set) {
        switch (kind) {
            case ADMISSIBLE:
                return isAdmissible(set);
            case COMPLETE:
                return isComplete(set);
            case PREFERRED:
                return isPreferred(set);
            case STABLE:
                return isStable(set);
            case STAGE:
                return isStage(set);
            case SEMISTABLE:
                return isSemistable(set);
            default:
                return false;
        }
    }

    // No set contains a claim out of play; every kind asks here first, so that test stands here alone.
    private boolean isPeaceful(int set) {
        return isPart(set, inPlay) && (set & attackedBy(set)) == 0;
    }

    private boolean isAdmissible(int set) {
        return isPeaceful(set) && (set & ~defendedBy(set)) == 0;
    }

    // A peaceful set that is just what it defends is admissible too.
    private boolean isComplete(int set) {
        return isPeaceful(set) && set == defendedBy(set);
    }

    private boolean isPreferred(int set) {
        if (!isAdmissible(set)) {
            return false;
        }
        for (int other = 0; other < setCount; other++) {
            if (isProperPart(set, other) && isAdmissible(other)) {
                return false;
            }
        }
        return true;
    }

    private boolean isStable(int set) {
        return isPeaceful(set) && rangeOf(set) == inPlay;
    }

    private boolean isStage(int set) {
        if (!isPeaceful(set)) {
            return false;
        }
        int reach = rangeOf(set);
        for (int other = 0; other < setCount; other++) {
            int otherReach = rangeOf(other);
            if (isProperPart(reach, otherReach) && isPeaceful(other)) {
                return false;
            }
        }
        return true;
    }

    private boolean isSemistable(int set) {
        if (!isComplete(set)) {
            return false;
        }
        int reach = rangeOf(set);
        for (int other = 0; other < setCount; other++) {
            int otherReach = rangeOf(other);
            if (isProperPart(reach, otherReach) && isComplete(other)) {
                return false;
            }
        }
        return true;
    }
}
