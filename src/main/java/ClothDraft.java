/** A loom with four shafts and four treadles, and the cloth that comes of it. */
public final class ClothDraft {
    public static final int BAD_ARG = -1;
    public static final int NONE = -4;

    private static final int SHAFTS = 4;
    private static final int TREADLES = 4;
    private static final int SHAFT_SETS = 16;
    private static final int MOST_WARPS = 8;
    private static final int MOST_WEFTS = 8;
    private static final int FIRST_WEFT = 8;
    private static final int MOST_THREADS = 16;

    private final int warpCount;
    private final int weftCount;
    private final int[] shaftOfWarp = new int[MOST_WARPS];
    private final int[] treadleOfWeft = new int[MOST_WEFTS];
    private final int[] shaftsOfTreadle = new int[TREADLES];

    // Worked out anew in each call that reads them, so they are never stale.
    private final int[] under = new int[MOST_THREADS];
    private final int[] beneath = new int[MOST_THREADS];

    public ClothDraft(int warps, int wefts) {
        warpCount = clamp(warps, MOST_WARPS);
        weftCount = clamp(wefts, MOST_WEFTS);
    }

    public int thread(int c, int shaft) {
        if (!isWarp(c) || !isWithin(shaft, SHAFTS)) {
            return BAD_ARG;
        }
        int before = shaftOfWarp[c];
        shaftOfWarp[c] = shaft;
        return before;
    }

    public int treadle(int r, int treadle) {
        if (!isWeft(r) || !isWithin(treadle, TREADLES)) {
            return BAD_ARG;
        }
        int before = treadleOfWeft[r];
        treadleOfWeft[r] = treadle;
        return before;
    }

    public int tie(int treadle, int shafts) {
        if (!isWithin(treadle, TREADLES) || !isWithin(shafts, SHAFT_SETS)) {
            return BAD_ARG;
        }
        int before = shaftsOfTreadle[treadle];
        shaftsOfTreadle[treadle] = shafts;
        return before;
    }

    public int threadAll(int first, int step) {
        if (!isWithin(first, SHAFTS) || !isWithin(step, SHAFTS)) {
            return BAD_ARG;
        }
        for (int c = 0; c < warpCount; c++) {
            shaftOfWarp[c] = (first + step * c) % SHAFTS;
        }
        return 0;
    }

    public int treadleAll(int first, int step) {
        if (!isWithin(first, TREADLES) || !isWithin(step, TREADLES)) {
            return BAD_ARG;
        }
        for (int r = 0; r < weftCount; r++) {
            treadleOfWeft[r] = (first + step * r) % TREADLES;
        }
        return 0;
    }

    public int invert() {
        int ties = 0;
        for (int i = 0; i < TREADLES; i++) {
            shaftsOfTreadle[i] = SHAFT_SETS - 1 - shaftsOfTreadle[i];
            ties += sizeOf(shaftsOfTreadle[i]);
        }
        return ties;
    }

    public int above(int c, int r) {
        if (!isWarp(c) || !isWeft(r)) {
            return BAD_ARG;
        }
        return isWarpAbove(c, r) ? 1 : 0;
    }

    public int longest(int thread) {
        if (!isThread(thread)) {
            return BAD_ARG;
        }
        findUnder();
        if (isWarp(thread)) {
            return longestRun(under[thread] >> FIRST_WEFT, weftCount);
        }
        return longestRun(under[thread], warpCount);
    }

    public int over(int thread) {
        if (!isThread(thread)) {
            return BAD_ARG;
        }
        findUnder();
        return sizeOf(under[thread]);
    }

    // Two warps can share a shaft just when they are above the same wefts.
    public int shafts() {
        findUnder();
        return countDifferent(0, warpCount);
    }

    // Two wefts can share a treadle just when they are above the same warps:
    // shafts that carry no warp do not show in the cloth.
    public int treadles() {
        findUnder();
        return countDifferent(FIRST_WEFT, weftCount);
    }

    // One of two crossing threads is always above the other, so a set can be
    // lifted off unless a thread that stays is above one of the set.
    public int liftable(int set) {
        findUnder();
        for (int t = 0; t < MOST_THREADS; t++) {
            if (!holds(set, t) && (under[t] & set) != 0) {
                return 0;
            }
        }
        return 1;
    }

    // If there are two knots or more, an uppermost one can be lifted off.
    public int hangs() {
        findBeneath();
        return countKnots() == 1 ? 1 : 0;
    }

    // A knot can't be parted, and each knot can have a layer of its own.
    public int layers() {
        findBeneath();
        return countKnots();
    }

    public int together(int a, int b) {
        if (!isThread(a) || !isThread(b)) {
            return BAD_ARG;
        }
        findBeneath();
        return beneath[a] == beneath[b] ? 1 : 0;
    }

    // What is lifted off is all of some uppermost levels and, of the next level,
    // any knots but at least one: for n knots in that level, 2^n - 1 sets, which
    // is 1 + 2 + 4 + .. with one term for each knot. One of these sets is the
    // whole cloth, which does not count.
    public int lifts() {
        findBeneath();
        int sets = 0;
        for (int t = 0; t < MOST_THREADS; t++) {
            if (isFirstOfKnot(t)) {
                sets += 1 << knotsBefore(t);
            }
        }
        return sets - 1;
    }

    // With a layer for each knot, the levels keep their order and the n knots of
    // a level go in any order: n! ways, which is 1 * 2 * 3 * .. with one factor
    // for each knot. The most is 8! * 8!, which an int holds.
    public int divisions() {
        findBeneath();
        int ways = 1;
        for (int t = 0; t < MOST_THREADS; t++) {
            if (isFirstOfKnot(t)) {
                ways *= 1 + knotsBefore(t);
            }
        }
        return ways;
    }

    private static int clamp(int number, int most) {
        if (number < 1) {
            return 1;
        }
        return number > most ? most : number;
    }

    private static boolean isWithin(int number, int bound) {
        return number >= 0 && number < bound;
    }

    private static boolean holds(int set, int element) {
        return ((set >> element) & 1) == 1;
    }

    private static int sizeOf(int set) {
        int size = 0;
        for (int i = 0; i < MOST_THREADS; i++) {
            size += (set >> i) & 1;
        }
        return size;
    }

    private static int longestRun(int bits, int length) {
        int run = 0;
        int best = 0;
        for (int i = 0; i < length; i++) {
            boolean goesOn = i > 0 && holds(bits, i) == holds(bits, i - 1);
            run = goesOn ? run + 1 : 1;
            best = run > best ? run : best;
        }
        return best;
    }

    private boolean isWarp(int c) {
        return isWithin(c, warpCount);
    }

    private boolean isWeft(int r) {
        return isWithin(r, weftCount);
    }

    private boolean isThread(int thread) {
        return isWarp(thread) || (thread >= FIRST_WEFT && thread < FIRST_WEFT + weftCount);
    }

    private boolean isWarpAbove(int c, int r) {
        return holds(shaftsOfTreadle[treadleOfWeft[r]], shaftOfWarp[c]);
    }

    // under[t] becomes the set of the threads that thread t is above; it is empty
    // where there is no thread t.
    private void findUnder() {
        for (int t = 0; t < MOST_THREADS; t++) {
            under[t] = 0;
        }
        for (int c = 0; c < warpCount; c++) {
            for (int r = 0; r < weftCount; r++) {
                if (isWarpAbove(c, r)) {
                    under[c] |= 1 << (FIRST_WEFT + r);
                } else {
                    under[FIRST_WEFT + r] |= 1 << c;
                }
            }
        }
    }

    private int countDifferent(int from, int count) {
        int different = 0;
        for (int t = from; t < from + count; t++) {
            if (isNewFrom(from, t)) {
                different++;
            }
        }
        return different;
    }

    private boolean isNewFrom(int from, int thread) {
        for (int t = from; t < thread; t++) {
            if (under[t] == under[thread]) {
                return false;
            }
        }
        return true;
    }

    // beneath[t] becomes the set of t itself and of all threads that t is above,
    // straight or by way of others; it is empty where there is no thread t.
    // Threads that are beneath each other are a KNOT: they have equal sets, and
    // no division and no lifting parts them.
    private void findBeneath() {
        findUnder();
        for (int t = 0; t < MOST_THREADS; t++) {
            beneath[t] = isThread(t) ? (1 << t) | under[t] : 0;
        }
        for (int by = 0; by < MOST_THREADS; by++) {
            for (int t = 0; t < MOST_THREADS; t++) {
                if (holds(beneath[t], by)) {
                    beneath[t] |= beneath[by];
                }
            }
        }
    }

    private boolean isFirstOfKnot(int thread) {
        if (beneath[thread] == 0) {
            return false;
        }
        for (int t = 0; t < thread; t++) {
            if (beneath[t] == beneath[thread]) {
                return false;
            }
        }
        return true;
    }

    private int countKnots() {
        int knots = 0;
        for (int t = 0; t < MOST_THREADS; t++) {
            if (isFirstOfKnot(t)) {
                knots++;
            }
        }
        return knots;
    }

    // How many knots of the LEVEL of this one have a smaller first thread. Knots
    // are in one level if neither is beneath the other. They are then single
    // warps, or single wefts, that are above the same threads and under the same
    // threads; so each knot is in just one level, and of two levels one is
    // beneath the other as a whole.
    private int knotsBefore(int first) {
        int knots = 0;
        for (int t = 0; t < first; t++) {
            if (isFirstOfKnot(t) && !holds(beneath[t], first) && !holds(beneath[first], t)) {
                knots++;
            }
        }
        return knots;
    }
}
