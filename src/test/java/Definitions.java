/** The document's terms word for word, claim by claim and slowly, to compare the class with. */
final class Definitions {
    final int n;
    final boolean[][] attack;
    final boolean[] inPlay;
    final boolean[][] ofKind;

    Definitions(int n, boolean[][] attack, boolean[] inPlay) {
        this.n = n;
        this.attack = attack;
        this.inPlay = inPlay;
        this.ofKind = new boolean[6][1 << n];
        fill();
    }

    static boolean has(int set, int c) {
        return set / (1 << c) % 2 == 1;
    }

    boolean isSet(int set) {
        for (int c = 0; c < n; c++) {
            if (has(set, c) && !inPlay[c]) {
                return false;
            }
        }
        return true;
    }

    boolean attacks(int set, int claim) {
        for (int c = 0; c < n; c++) {
            if (has(set, c) && inPlay[c] && inPlay[claim] && attack[c][claim]) {
                return true;
            }
        }
        return false;
    }

    boolean peaceful(int set) {
        for (int c = 0; c < n; c++) {
            if (has(set, c) && attacks(set, c)) {
                return false;
            }
        }
        return true;
    }

    boolean defends(int set, int claim) {
        for (int c = 0; c < n; c++) {
            if (inPlay[c] && attack[c][claim] && !attacks(set, c)) {
                return false;
            }
        }
        return true;
    }

    int defended(int set) {
        int sum = 0;
        for (int c = 0; c < n; c++) {
            if (inPlay[c] && defends(set, c)) {
                sum += 1 << c;
            }
        }
        return sum;
    }

    int range(int set) {
        int sum = 0;
        for (int c = 0; c < n; c++) {
            if (has(set, c) || attacks(set, c)) {
                sum += 1 << c;
            }
        }
        return sum;
    }

    static boolean part(int small, int great) {
        for (int c = 0; c < 8; c++) {
            if (has(small, c) && !has(great, c)) {
                return false;
            }
        }
        return true;
    }

    static boolean properPart(int small, int great) {
        return small != great && part(small, great);
    }

    private boolean admissible(int set) {
        if (!peaceful(set)) {
            return false;
        }
        for (int c = 0; c < n; c++) {
            if (has(set, c) && !defends(set, c)) {
                return false;
            }
        }
        return true;
    }

    private boolean stable(int set) {
        if (!peaceful(set)) {
            return false;
        }
        for (int c = 0; c < n; c++) {
            if (inPlay[c] && !has(set, c) && !attacks(set, c)) {
                return false;
            }
        }
        return true;
    }

    private void fill() {
        int all = 1 << n;
        boolean[] peaceful = new boolean[all];
        int[] range = new int[all];
        for (int set = 0; set < all; set++) {
            if (isSet(set)) {
                peaceful[set] = peaceful(set);
                range[set] = range(set);
                ofKind[0][set] = admissible(set);
                ofKind[1][set] = ofKind[0][set] && part(defended(set), set);
                ofKind[3][set] = stable(set);
            }
        }
        for (int set = 0; set < all; set++) {
            ofKind[2][set] = ofKind[0][set];
            ofKind[4][set] = peaceful[set];
            ofKind[5][set] = ofKind[1][set];
            for (int other = 0; other < all; other++) {
                ofKind[2][set] &= !(ofKind[0][other] && properPart(set, other));
                ofKind[4][set] &= !(peaceful[other] && properPart(range[set], range[other]));
                ofKind[5][set] &= !(ofKind[1][other] && properPart(range[set], range[other]));
            }
        }
    }

    /** The complete set that is part of every complete set. */
    int grounded() {
        for (int set = 0; set < 1 << n; set++) {
            if (ofKind[1][set] && partOfEvery(1, set)) {
                return set;
            }
        }
        throw new IllegalStateException("there always is a grounded set");
    }

    /** The admissible set, part of every preferred set, that contains all others of that sort. */
    int ideal() {
        for (int set = 0; set < 1 << n; set++) {
            if (!ofKind[0][set] || !partOfEvery(2, set)) {
                continue;
            }
            boolean greatest = true;
            for (int other = 0; other < 1 << n; other++) {
                greatest &= !(ofKind[0][other] && partOfEvery(2, other)) || part(other, set);
            }
            if (greatest) {
                return set;
            }
        }
        throw new IllegalStateException("there always is an ideal set");
    }

    private boolean partOfEvery(int kind, int set) {
        for (int other = 0; other < 1 << n; other++) {
            if (ofKind[kind][other] && !part(set, other)) {
                return false;
            }
        }
        return true;
    }
}
