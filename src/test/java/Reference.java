/**
 * A slow cloth that follows the document's definitions word by word: where the
 * document says "least", "greatest", "every" or "how many", it tries them all.
 */
final class Reference {
    final int w;
    final int h;
    final int[] shaftOf = new int[8];
    final int[] treadleOf = new int[8];
    final int[] tied = new int[4];

    Reference(int w, int h) {
        this.w = w;
        this.h = h;
    }

    int thread(int c, int shaft) {
        int before = shaftOf[c];
        shaftOf[c] = shaft;
        return before;
    }

    int treadle(int r, int treadle) {
        int before = treadleOf[r];
        treadleOf[r] = treadle;
        return before;
    }

    int tie(int treadle, int shafts) {
        int before = tied[treadle];
        tied[treadle] = shafts;
        return before;
    }

    int threadAll(int first, int step) {
        for (int c = 0; c < w; c++) {
            shaftOf[c] = (first + step * c) % 4;
        }
        return 0;
    }

    int treadleAll(int first, int step) {
        for (int r = 0; r < h; r++) {
            treadleOf[r] = (first + step * r) % 4;
        }
        return 0;
    }

    int invert() {
        int ties = 0;
        for (int i = 0; i < 4; i++) {
            tied[i] ^= 15;
            ties += Integer.bitCount(tied[i]);
        }
        return ties;
    }

    boolean isThread(int t) {
        return t >= 0 && t < 8 ? t < w : t >= 8 && t < 8 + h;
    }

    private boolean cross(int a, int b) {
        return isThread(a) && isThread(b) && (a < 8) != (b < 8);
    }

    /** Thread a is above thread b; they cross. */
    boolean isAbove(int a, int b) {
        if (a >= 8) {
            return !isAbove(b, a);
        }
        return (tied[treadleOf[b - 8]] >> shaftOf[a] & 1) == 1;
    }

    private int crossings(int t) {
        return t < 8 ? h : w;
    }

    private int crossed(int t, int place) {
        return t < 8 ? 8 + place : place;
    }

    int longest(int t) {
        int best = 0;
        for (int from = 0; from < crossings(t); from++) {
            for (int to = from; to < crossings(t); to++) {
                if (isFloat(t, from, to)) {
                    best = Math.max(best, to - from + 1);
                }
            }
        }
        return best;
    }

    private boolean isFloat(int t, int from, int to) {
        boolean over = true;
        boolean under = true;
        for (int place = from; place <= to; place++) {
            over &= isAbove(t, crossed(t, place));
            under &= isAbove(crossed(t, place), t);
        }
        return over || under;
    }

    int over(int t) {
        int count = 0;
        for (int place = 0; place < crossings(t); place++) {
            count += isAbove(t, crossed(t, place)) ? 1 : 0;
        }
        return count;
    }

    /** Any threading on k shafts will do under which a treadle for each weft can be tied rightly. */
    int shafts() {
        for (int k = 1; ; k++) {
            for (int code = 0; code < power(k, w); code++) {
                boolean fits = true;
                for (int r = 0; r < h && fits; r++) {
                    fits = canTie(digits(code, k, w), k, 1 << r);
                }
                if (fits) {
                    return k;
                }
            }
        }
    }

    /** Any treadling with k treadles will do under which each treadle can be tied rightly. */
    int treadles() {
        for (int k = 1; ; k++) {
            for (int code = 0; code < power(k, h); code++) {
                int[] treadling = digits(code, k, h);
                boolean fits = true;
                for (int i = 0; i < k && fits; i++) {
                    int wefts = 0;
                    for (int r = 0; r < h; r++) {
                        wefts |= treadling[r] == i ? 1 << r : 0;
                    }
                    fits = canTie(shaftOf, 4, wefts);
                }
                if (fits) {
                    return k;
                }
            }
        }
    }

    /** Some set of the k shafts makes every one of these wefts as it is in the cloth. */
    private boolean canTie(int[] threading, int k, int wefts) {
        for (int set = 0; set < 1 << k; set++) {
            boolean fits = true;
            for (int r = 0; r < h; r++) {
                for (int c = 0; c < w && (wefts >> r & 1) == 1; c++) {
                    fits &= (set >> threading[c] & 1) == (isAbove(c, 8 + r) ? 1 : 0);
                }
            }
            if (fits) {
                return true;
            }
        }
        return false;
    }

    boolean liftable(int set) {
        for (int a = 0; a < 16; a++) {
            for (int b = 0; b < 16; b++) {
                boolean parted = (set >> a & 1) == 1 && (set >> b & 1) == 0;
                if (cross(a, b) && parted && !isAbove(a, b)) {
                    return false;
                }
            }
        }
        return true;
    }

    int all() {
        return ((1 << w) - 1) | (((1 << h) - 1) << 8);
    }

    /** The sets of threads that can be lifted off, the empty one and that of all threads among them. */
    int[] liftableSets() {
        int[] found = new int[1 << (w + h)];
        int count = 0;
        for (int set = 0; set <= all(); set++) {
            if ((set & ~all()) == 0 && liftable(set)) {
                found[count++] = set;
            }
        }
        return java.util.Arrays.copyOf(found, count);
    }

    /**
     * How many divisions there are in k layers, at [k]. The threads of the upper
     * layers, down to any one, are a set that can be lifted off, and a growing
     * row of such sets from the empty one to all threads is a division.
     */
    static long[] divisionsByRows(int[] sets) {
        long[][] rows = new long[sets.length][17];
        rows[0][0] = 1;
        for (int to = 1; to < sets.length; to++) {
            for (int from = 0; from < to; from++) {
                for (int k = 1; k <= 16 && (sets[from] & ~sets[to]) == 0; k++) {
                    rows[to][k] += rows[from][k - 1];
                }
            }
        }
        return rows[sets.length - 1];
    }

    /** The same, by giving the threads their layers in every way. */
    long[] divisionsByTrial() {
        long[] found = new long[17];
        for (int k = 1; k <= w + h; k++) {
            for (int code = 0; code < power(k, w + h); code++) {
                found[k] += isDivision(digits(code, k, w + h), k) ? 1 : 0;
            }
        }
        return found;
    }

    /** The two threads are in the same layer in every division, by giving all threads their layers in every way. */
    boolean togetherByTrial(int a, int b) {
        for (int k = 1; k <= w + h; k++) {
            for (int code = 0; code < power(k, w + h); code++) {
                int[] layers = digits(code, k, w + h);
                if (layers[index(a)] != layers[index(b)] && isDivision(layers, k)) {
                    return false;
                }
            }
        }
        return true;
    }

    /** Every set that can be lifted off is a division in two layers, unless one of them is empty. */
    static boolean togetherBySets(int[] sets, int a, int b) {
        for (int set : sets) {
            if ((set >> a & 1) != (set >> b & 1)) {
                return false;
            }
        }
        return true;
    }

    private boolean isDivision(int[] layers, int k) {
        int used = 0;
        for (int layer : layers) {
            used |= 1 << layer;
        }
        if (used != (1 << k) - 1) {
            return false;
        }
        for (int a = 0; a < 16; a++) {
            for (int b = 0; b < 16; b++) {
                if (cross(a, b) && layers[index(a)] > layers[index(b)] && !isAbove(a, b)) {
                    return false;
                }
            }
        }
        return true;
    }

    private int index(int t) {
        return t < 8 ? t : w + t - 8;
    }

    private static int power(int base, int exponent) {
        int product = 1;
        for (int i = 0; i < exponent; i++) {
            product *= base;
        }
        return product;
    }

    private static int[] digits(int code, int base, int count) {
        int[] found = new int[count];
        for (int i = 0; i < count; i++) {
            found[i] = code % base;
            code /= base;
        }
        return found;
    }
}
