/** Holds the answers about many cloths against those of the slow Reference. */
public final class DefinitionTest {
    private static final Check CHECK = new Check();
    private static long seed = 20261115;

    public static void main(String[] args) {
        everySmallCloth();
        everyTieUp();
        cloths(400);
        runsOfCalls(60);
        CHECK.finish();
    }

    /** A fixed row of numbers, the same in each run. */
    private static int next(int bound) {
        seed = seed * 6364136223846793005L + 1442695040888963407L;
        return (int) ((seed >>> 33) % bound);
    }

    /** All cloths of up to 3 warps and 3 wefts, with every division tried out. */
    private static void everySmallCloth() {
        for (int w = 1; w <= 3; w++) {
            for (int h = 1; h <= 3; h++) {
                for (int ties = 0; ties < 1 << (w * h); ties++) {
                    Reference due = straight(w, h);
                    for (int r = 0; r < h; r++) {
                        due.tie(r, ties >> (r * w) & ((1 << w) - 1));
                    }
                    compareEverySet(weave(due), due);
                    compareCounts(weave(due), due.liftableSets().length - 2, due.divisionsByTrial());
                    comparePairsByTrial(weave(due), due);
                }
            }
        }
    }

    /** All cloths of 4 warps and 4 wefts. */
    private static void everyTieUp() {
        Reference due = straight(4, 4);
        for (int ties = 0; ties < 1 << 16; ties++) {
            for (int i = 0; i < 4; i++) {
                due.tie(i, ties >> (4 * i) & 15);
            }
            int[] sets = due.liftableSets();
            ClothDraft cloth = weave(due);
            compareThreads(cloth, due);
            compareNeeds(cloth, due);
            compareCounts(cloth, sets.length - 2, Reference.divisionsByRows(sets));
            compareSomePairs(cloth, due, sets, 12);
            compareSomeSets(cloth, due, sets, 12);
        }
    }

    private static void cloths(int count) {
        for (int i = 0; i < count; i++) {
            Reference due = new Reference(1 + next(8), 1 + next(8));
            ClothDraft cloth = new ClothDraft(due.w, due.h);
            for (int j = 0; j < due.w + due.h + 4; j++) {
                changeAtRandom(cloth, due);
            }
            int[] sets = due.liftableSets();
            compareThreads(cloth, due);
            compareCrossings(cloth, due);
            compareNeeds(cloth, due);
            compareCounts(cloth, sets.length - 2, Reference.divisionsByRows(sets));
            compareSomeSets(cloth, due, sets, 60);
            compareEveryPair(weave(due), due, sets);
        }
    }

    /** Asks between the changes too, so that an answer kept from before would show. */
    private static void runsOfCalls(int count) {
        for (int i = 0; i < count; i++) {
            Reference due = new Reference(1 + next(5), 1 + next(5));
            ClothDraft cloth = new ClothDraft(due.w, due.h);
            for (int j = 0; j < 7; j++) {
                changeAtRandom(cloth, due);
                int[] sets = due.liftableSets();
                compareThreads(cloth, due);
                compareNeeds(cloth, due);
                compareCounts(cloth, sets.length - 2, Reference.divisionsByRows(sets));
                compareSomePairs(cloth, due, sets, 8);
                compareSomeSets(cloth, due, sets, 8);
            }
        }
    }

    private static Reference straight(int w, int h) {
        Reference due = new Reference(w, h);
        due.threadAll(0, 1);
        due.treadleAll(0, 1);
        return due;
    }

    /** A new object with this cloth: no object may be asked more than 512 times. */
    private static ClothDraft weave(Reference due) {
        ClothDraft cloth = new ClothDraft(due.w, due.h);
        for (int c = 0; c < due.w; c++) {
            cloth.thread(c, due.shaftOf[c]);
        }
        for (int r = 0; r < due.h; r++) {
            cloth.treadle(r, due.treadleOf[r]);
        }
        for (int i = 0; i < 4; i++) {
            cloth.tie(i, due.tied[i]);
        }
        return cloth;
    }

    private static void changeAtRandom(ClothDraft cloth, Reference due) {
        int a = next(4);
        int b = next(4);
        int c = next(due.w);
        int r = next(due.h);
        switch (next(12)) {
            case 0 -> CHECK.due("threadAll", cloth.threadAll(a, b), due.threadAll(a, b));
            case 1 -> CHECK.due("treadleAll", cloth.treadleAll(a, b), due.treadleAll(a, b));
            case 2 -> CHECK.due("invert", cloth.invert(), due.invert());
            case 3, 4, 5 -> CHECK.due("thread", cloth.thread(c, a), due.thread(c, a));
            case 6, 7, 8 -> CHECK.due("treadle", cloth.treadle(r, a), due.treadle(r, a));
            default -> {
                int shafts = someShafts();
                CHECK.due("tie", cloth.tie(a, shafts), due.tie(a, shafts));
            }
        }
    }

    /** Few or many shafts more often than two: else most cloths would hang together. */
    private static int someShafts() {
        int a = next(16);
        int b = next(16);
        return switch (next(3)) {
            case 0 -> a;
            case 1 -> a & b;
            default -> a | b;
        };
    }

    private static void compareThreads(ClothDraft cloth, Reference due) {
        for (int t = -1; t < 17; t++) {
            CHECK.due("longest(" + t + ")", cloth.longest(t), due.isThread(t) ? due.longest(t) : -1);
            CHECK.due("over(" + t + ")", cloth.over(t), due.isThread(t) ? due.over(t) : -1);
        }
    }

    private static void compareCrossings(ClothDraft cloth, Reference due) {
        for (int c = -1; c < 9; c++) {
            for (int r = -1; r < 9; r++) {
                boolean there = c >= 0 && c < due.w && r >= 0 && r < due.h;
                int want = there ? bit(due.isAbove(c, 8 + r)) : -1;
                CHECK.due("above(" + c + ", " + r + ")", cloth.above(c, r), want);
            }
        }
    }

    private static void compareNeeds(ClothDraft cloth, Reference due) {
        CHECK.due("shafts()", cloth.shafts(), due.shafts());
        CHECK.due("treadles()", cloth.treadles(), due.treadles());
    }

    private static void compareCounts(ClothDraft cloth, int lifts, long[] divisions) {
        int layers = Due.layers(divisions);
        CHECK.due("lifts()", cloth.lifts(), lifts);
        CHECK.due("hangs()", cloth.hangs(), lifts == 0 ? 1 : 0);
        CHECK.due("layers()", cloth.layers(), layers);
        CHECK.due("divisions()", (long) cloth.divisions(), divisions[layers]);
    }

    private static void compareEveryPair(ClothDraft cloth, Reference due, int[] sets) {
        for (int a = -1; a < 17; a++) {
            for (int b = -1; b < 17; b++) {
                comparePair(cloth, due, sets, a, b);
            }
        }
    }

    private static void compareSomePairs(ClothDraft cloth, Reference due, int[] sets, int count) {
        for (int i = 0; i < count; i++) {
            int a = next(2) * 8 + next(due.w);
            int b = next(2) * 8 + next(due.h);
            comparePair(cloth, due, sets, a, b);
        }
    }

    private static void comparePair(ClothDraft cloth, Reference due, int[] sets, int a, int b) {
        boolean there = due.isThread(a) && due.isThread(b);
        int want = there ? bit(Reference.togetherBySets(sets, a, b)) : -1;
        CHECK.due("together(" + a + ", " + b + ")", cloth.together(a, b), want);
    }

    private static void comparePairsByTrial(ClothDraft cloth, Reference due) {
        int[] ends = {0, due.w - 1, 8, 7 + due.h};
        for (int a : ends) {
            for (int b : ends) {
                CHECK.due("together(" + a + ", " + b + ")", cloth.together(a, b), bit(due.togetherByTrial(a, b)));
            }
        }
    }

    private static void compareEverySet(ClothDraft cloth, Reference due) {
        for (int warps = 0; warps < 1 << due.w; warps++) {
            for (int wefts = 0; wefts < 1 << due.h; wefts++) {
                compareSet(cloth, due, warps | wefts << 8);
            }
        }
    }

    /** Sets that can be lifted off, and their neighbours, which mostly can't; with bits of threads that are not there. */
    private static void compareSomeSets(ClothDraft cloth, Reference due, int[] sets, int count) {
        for (int i = 0; i < count; i++) {
            int set = sets[next(sets.length)];
            int absent = (next(1 << 16) << 16 | next(1 << 16)) & ~due.all();
            compareSet(cloth, due, set | absent);
            compareSet(cloth, due, set ^ 1 << next(16));
        }
    }

    private static void compareSet(ClothDraft cloth, Reference due, int set) {
        CHECK.due("liftable(" + set + ")", cloth.liftable(set), bit(due.liftable(set)));
    }

    private static int bit(boolean holds) {
        return holds ? 1 : 0;
    }
}
