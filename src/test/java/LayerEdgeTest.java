import java.util.ArrayList;
import java.util.Arrays;
import java.util.List;
import java.util.function.IntBinaryOperator;
import java.util.function.ToIntFunction;

/** The boundary cases of promises 13 to 18: what can be lifted off, and the layers. */
public final class LayerEdgeTest {
    private static final int[] FACTORIAL = {1, 1, 2, 6, 24, 120, 720, 5040, 40320};

    // All threads of 2 warps and 2 wefts, and the sets that can be lifted off of
    // the cloth of four layers: from above, warp 1, weft 1, warp 0, weft 0.
    private static final int ALL_4 = 1 + 2 + 256 + 512;
    private static final int[] LIFTABLE_4 = {0, 2, 2 + 512, 2 + 512 + 1, ALL_4};

    public static void main(String[] args) {
        Edges.run(LayerEdgeTest.class);
    }

    private static ClothDraft fourLayers() {
        return Cloths.cloth("11", "01");
    }

    private static int bit(boolean holds) {
        return holds ? 1 : 0;
    }

    private static int allThreads(int w, int h) {
        return (1 << w) - 1 + ((1 << h) - 1) * 256;
    }

    /** One warp and one weft, the weft above, and then the warp above. */
    private static ClothDraft[] oneCrossing() {
        ClothDraft warpAbove = new ClothDraft(1, 1);
        warpAbove.invert();
        return new ClothDraft[] {new ClothDraft(1, 1), warpAbove};
    }

    // Promise 13

    @Edge(in = "Promise 13", says = "1 if the set of threads can be lifted off")
    static void liftableOfTheEmptySetIs1(Check check) {
        for (int w = 1; w <= 8; w++) {
            for (int h = 1; h <= 8; h++) {
                check.due("new: liftable(0)", new ClothDraft(w, h).liftable(0), 1);
                check.due("stair: liftable(0)", Cloths.stair(w, h).liftable(0), 1);
                check.due("plain weave: liftable(0)", Cloths.plainWeave(w, h).liftable(0), 1);
            }
        }
    }

    @Edge(in = "Promise 13", says = "1 if the set of threads can be lifted off")
    static void liftableOfAllThreadsIs1(Check check) {
        for (int w = 1; w <= 8; w++) {
            for (int h = 1; h <= 8; h++) {
                int all = allThreads(w, h);
                check.due("new: liftable(" + all + ")", new ClothDraft(w, h).liftable(all), 1);
                check.due("stair: liftable(" + all + ")", Cloths.stair(w, h).liftable(all), 1);
                check.due("plain weave: liftable(" + all + ")", Cloths.plainWeave(w, h).liftable(all), 1);
            }
        }
    }

    @Edge(in = "Promise 13", says = "1 if the set of threads can be lifted off, else 0")
    static void liftableOfEverySetOfASmallCloth(Check check) {
        absentBits(check, 0);
    }

    @Edge(in = "Promise 13", says = "bits of threads that are not there are not looked at")
    static void liftableLooksAtNoBitBetweenTheLastWarpAndTheFirstWeft(Check check) {
        for (int t = 2; t < 8; t++) {
            absentBits(check, 1 << t);
        }
    }

    @Edge(in = "Promise 13", says = "bits of threads that are not there are not looked at")
    static void liftableLooksAtNoBitBehindTheLastWeft(Check check) {
        for (int t = 10; t < 16; t++) {
            absentBits(check, 1 << t);
        }
    }

    @Edge(in = "Promise 13", says = "bits of threads that are not there are not looked at")
    static void liftableLooksAtNoBitFrom16On(Check check) {
        for (int t = 16; t < 32; t++) {
            absentBits(check, 1 << t);
        }
    }

    @Edge(in = "Promise 13", says = "bits of threads that are not there are not looked at")
    static void liftableLooksAtNoneOfAllAbsentBits(Check check) {
        absentBits(check, ~ALL_4);
    }

    /** Every set of four threads, with these bits added, in a cloth and in that cloth turned over. */
    private static void absentBits(Check check, int bits) {
        ClothDraft x = fourLayers();
        ClothDraft turned = fourLayers();
        turned.invert();
        for (int part = 0; part < 16; part++) {
            int set = part % 4 + part / 4 * 256;
            int full = set | bits;
            check.due("liftable(" + full + ")", x.liftable(full), bit(isLiftable4(set)));
            check.due("turned over, liftable(" + full + ")", turned.liftable(full), bit(isLiftable4(ALL_4 - set)));
        }
    }

    private static boolean isLiftable4(int set) {
        for (int one : LIFTABLE_4) {
            if (set == one) {
                return true;
            }
        }
        return false;
    }

    @Edge(in = "Promise 13", says = "bits of threads that are not there are not looked at")
    static void liftableOfAbsentThreadsAloneIsThatOfTheEmptySet(Check check) {
        for (ClothDraft x : oneCrossing()) {
            for (int set : new int[] {2, 128, 254, 512, 32768, 65024, 65536, Integer.MIN_VALUE, ~257}) {
                check.due("liftable(" + set + ")", x.liftable(set), 1);
            }
        }
    }

    @Edge(in = "Promise 13", says = "bits of threads that are not there are not looked at")
    static void liftableOfTheLeastAndTheGreatestNumber(Check check) {
        ClothDraft x = Cloths.plainWeave(8, 8);
        check.due("liftable(-1), all threads", x.liftable(-1), 1);
        check.due("liftable(least), the empty set", x.liftable(Integer.MIN_VALUE), 1);
        check.due("liftable(greatest), all threads", x.liftable(Integer.MAX_VALUE), 1);
        check.due("liftable(-2), all but warp 0", x.liftable(-2), 0);
        check.due("liftable(least + 1), warp 0 alone", x.liftable(Integer.MIN_VALUE + 1), 0);
    }

    @Edge(in = "Promise 13", says = "1 if the set of threads can be lifted off, else 0")
    static void liftableOfOneWarpAndOneWeft(Check check) {
        ClothDraft[] x = oneCrossing();
        check.due("weft above: liftable(256)", x[0].liftable(256), 1);
        check.due("weft above: liftable(1)", x[0].liftable(1), 0);
        check.due("warp above: liftable(256)", x[1].liftable(256), 0);
        check.due("warp above: liftable(1)", x[1].liftable(1), 1);
    }

    @Edge(in = "Promise 13", says = "1 if the set of threads can be lifted off, else 0")
    static void liftableOfOneThreadAndOfAllButOneWhereAllHangs(Check check) {
        ClothDraft x = Cloths.plainWeave(8, 8);
        for (int t = 0; t < 16; t++) {
            check.due("liftable(" + (1 << t) + ")", x.liftable(1 << t), 0);
            check.due("liftable(" + (65535 - (1 << t)) + ")", x.liftable(65535 - (1 << t)), 0);
        }
        check.due("liftable(255), all warps", x.liftable(255), 0);
        check.due("liftable(65280), all wefts", x.liftable(65280), 0);
    }

    @Edge(in = "Promise 13", says = "1 if the set of threads can be lifted off, else 0")
    static void liftableOf8WarpsAnd8Wefts(Check check) {
        ClothDraft x = new ClothDraft(8, 8);
        for (int n = 0; n < 8; n++) {
            int weft = 256 << n;
            int warp = 1 << n;
            check.due("liftable(" + weft + "), one weft", x.liftable(weft), 1);
            check.due("liftable(" + (65280 - weft) + "), all wefts but one", x.liftable(65280 - weft), 1);
            check.due("liftable(" + warp + "), one warp", x.liftable(warp), 0);
            check.due("liftable(" + (65280 + warp) + "), all wefts and one warp", x.liftable(65280 + warp), 1);
            check.due("liftable(" + (65535 - weft) + "), all but one weft", x.liftable(65535 - weft), 0);
        }
    }

    // Promises 14 to 18: one warp and one weft

    @Edge(in = "Promise 14", says = "1 if the cloth hangs together, else 0")
    static void hangsOfOneWarpAndOneWeftIs0(Check check) {
        for (ClothDraft x : oneCrossing()) {
            check.due("hangs()", x.hangs(), 0);
        }
    }

    @Edge(in = "Promise 15", says = "The greatest k for which there is a division in k layers")
    static void layersOfOneWarpAndOneWeftIs2(Check check) {
        for (ClothDraft x : oneCrossing()) {
            check.due("layers()", x.layers(), 2);
        }
    }

    @Edge(in = "Promise 16", says = "1 if the two threads are in the same layer in every division, else 0")
    static void togetherOfOneWarpAndOneWeftIs0(Check check) {
        for (ClothDraft x : oneCrossing()) {
            check.due("together(0, 8)", x.together(0, 8), 0);
            check.due("together(8, 0)", x.together(8, 0), 0);
        }
    }

    @Edge(in = "Promise 17", says = "except the empty one and that of all threads")
    static void liftsOfOneWarpAndOneWeftIs1(Check check) {
        for (ClothDraft x : oneCrossing()) {
            check.due("lifts()", x.lifts(), 1);
        }
    }

    @Edge(in = "Promise 18", says = "How many divisions there are in as many layers as layers() says")
    static void divisionsOfOneWarpAndOneWeftIs1(Check check) {
        for (ClothDraft x : oneCrossing()) {
            check.due("divisions()", x.divisions(), 1);
        }
    }

    // Promises 14 to 18: one warp, under n of 8 wefts and above the others, and
    // one weft in the same way

    private static ClothDraft oneWarp(int n) {
        ClothDraft x = new ClothDraft(1, 8);
        x.tie(1, 1);
        for (int r = n; r < 8; r++) {
            x.treadle(r, 1);
        }
        return x;
    }

    private static ClothDraft oneWeft(int n) {
        ClothDraft x = new ClothDraft(8, 1);
        x.tie(0, 1);
        for (int c = n; c < 8; c++) {
            x.thread(c, 1);
        }
        return x;
    }

    @Edge(in = "Promise 14", says = "1 if the cloth hangs together, else 0")
    static void hangsOfOneWarpOrOneWeftIs0(Check check) {
        for (int n = 0; n <= 8; n++) {
            check.due("one warp, " + n + " wefts above: hangs()", oneWarp(n).hangs(), 0);
            check.due("one weft, " + n + " warps above: hangs()", oneWeft(n).hangs(), 0);
        }
    }

    @Edge(in = "Promise 15", says = "The greatest k for which there is a division in k layers")
    static void layersOfOneWarpOrOneWeftIsThatOfTheThreads(Check check) {
        for (int n = 0; n <= 8; n++) {
            check.due("one warp, " + n + " wefts above: layers()", oneWarp(n).layers(), 9);
            check.due("one weft, " + n + " warps above: layers()", oneWeft(n).layers(), 9);
        }
    }

    @Edge(in = "Promise 16", says = "1 if the two threads are in the same layer in every division, else 0")
    static void togetherOfOneWarpOrOneWeftIs0(Check check) {
        for (int n = 0; n <= 8; n++) {
            check.due("one warp, " + n + " wefts above: together(0, 15)", oneWarp(n).together(0, 15), 0);
            check.due("one warp, " + n + " wefts above: together(8, 15)", oneWarp(n).together(8, 15), 0);
            check.due("one weft, " + n + " warps above: together(7, 8)", oneWeft(n).together(7, 8), 0);
            check.due("one weft, " + n + " warps above: together(0, 7)", oneWeft(n).together(0, 7), 0);
        }
    }

    @Edge(in = "Promise 17", says = "How many sets of threads, except the empty one and that of all threads, can be lifted off")
    static void liftsOfOneWarpOrOneWeft(Check check) {
        for (int n = 0; n <= 8; n++) {
            int due = (1 << n) + (1 << (8 - n)) - 2;
            check.due("one warp, " + n + " wefts above: lifts()", oneWarp(n).lifts(), due);
            check.due("one weft, " + n + " warps above: lifts()", oneWeft(n).lifts(), due);
        }
    }

    @Edge(in = "Promise 18", says = "How many divisions there are in as many layers as layers() says")
    static void divisionsOfOneWarpOrOneWeft(Check check) {
        for (int n = 0; n <= 8; n++) {
            int due = FACTORIAL[n] * FACTORIAL[8 - n];
            check.due("one warp, " + n + " wefts above: divisions()", oneWarp(n).divisions(), due);
            check.due("one weft, " + n + " warps above: divisions()", oneWeft(n).divisions(), due);
        }
    }

    // Promises 14 to 18: a cloth that hangs together, from 2 x 2 to 8 x 8

    private static void plainWeaves(Check check, String name, int due) {
        Call call = Call.named(name);
        for (int w = 2; w <= 8; w++) {
            for (int h = 2; h <= 8; h++) {
                check.due(w + " x " + h + ", plain weave: " + name + "()", call.on(Cloths.plainWeave(w, h), 0, 0), due);
            }
        }
    }

    @Edge(in = "Promise 14", says = "1 if the cloth hangs together")
    static void hangsOfAClothThatHangsIs1(Check check) {
        plainWeaves(check, "hangs", 1);
    }

    @Edge(in = "Promise 15", says = "The greatest k for which there is a division in k layers")
    static void layersOfAClothThatHangsIs1(Check check) {
        plainWeaves(check, "layers", 1);
    }

    @Edge(in = "Promise 16", says = "1 if the two threads are in the same layer in every division")
    static void togetherOfAClothThatHangsIs1(Check check) {
        ClothDraft x = Cloths.plainWeave(8, 8);
        for (int a = 0; a < 16; a++) {
            for (int b = 0; b < 16; b++) {
                check.due("together(" + a + ", " + b + ")", x.together(a, b), 1);
            }
        }
    }

    @Edge(in = "Promise 17", says = "except the empty one and that of all threads")
    static void liftsOfAClothThatHangsIs0(Check check) {
        plainWeaves(check, "lifts", 0);
    }

    @Edge(in = "Promise 18", says = "How many divisions there are in as many layers as layers() says")
    static void divisionsOfAClothThatHangsIs1(Check check) {
        plainWeaves(check, "divisions", 1);
    }

    // Promises 14 to 18: one thread, the last, can be lifted off a cloth of 8 x 8
    // that hangs together but for it

    private static ClothDraft lastWeftAboveAll() {
        ClothDraft x = Cloths.straight(8, 8, 5, 10, 5, 0);
        x.treadle(3, 1);
        return x;
    }

    @Edge(in = "Promise 14", says = "1 if the cloth hangs together, else 0")
    static void hangsIs0WhereOneThreadCanBeLifted(Check check) {
        check.due("hangs()", lastWeftAboveAll().hangs(), 0);
    }

    @Edge(in = "Promise 15", says = "The greatest k for which there is a division in k layers")
    static void layersIs2WhereOneThreadCanBeLifted(Check check) {
        check.due("layers()", lastWeftAboveAll().layers(), 2);
    }

    @Edge(in = "Promise 16", says = "1 if the two threads are in the same layer in every division, else 0")
    static void togetherIs0WithTheOneThreadThatCanBeLifted(Check check) {
        ClothDraft x = lastWeftAboveAll();
        for (int t = 0; t < 15; t++) {
            check.due("together(" + t + ", 15)", x.together(t, 15), 0);
            check.due("together(15, " + t + ")", x.together(15, t), 0);
            check.due("together(" + t + ", 0)", x.together(t, 0), 1);
        }
    }

    @Edge(in = "Promise 17", says = "How many sets of threads, except the empty one and that of all threads, can be lifted off")
    static void liftsIs1WhereOneThreadCanBeLifted(Check check) {
        check.due("lifts()", lastWeftAboveAll().lifts(), 1);
    }

    @Edge(in = "Promise 18", says = "How many divisions there are in as many layers as layers() says")
    static void divisionsIs1WhereOneThreadCanBeLifted(Check check) {
        check.due("divisions()", lastWeftAboveAll().divisions(), 1);
    }

    // Promises 14 to 18: 8 x 8, where the crossing of the last warp and the last
    // weft alone holds the cloth together. If the warp is above there as well, it
    // is above all wefts, and that weft is under all warps.

    private static ClothDraft heldByTheLastCrossing(boolean held) {
        ClothDraft x = new ClothDraft(8, 8);
        for (int n = 1; n < 7; n += 2) {
            x.thread(n, 1);
            x.treadle(n, 1);
        }
        x.thread(7, 3);
        x.treadle(7, 2);
        x.tie(0, 1 + 8);
        x.tie(1, 2 + 8);
        x.tie(2, held ? 1 + 2 : 1 + 2 + 8);
        return x;
    }

    @Edge(in = "Promise 14", says = "1 if the cloth hangs together, else 0")
    static void hangsByTheLastCrossing(Check check) {
        check.due("held: hangs()", heldByTheLastCrossing(true).hangs(), 1);
        check.due("not held: hangs()", heldByTheLastCrossing(false).hangs(), 0);
    }

    @Edge(in = "Promise 15", says = "The greatest k for which there is a division in k layers")
    static void layersByTheLastCrossing(Check check) {
        check.due("held: layers()", heldByTheLastCrossing(true).layers(), 1);
        check.due("not held: layers()", heldByTheLastCrossing(false).layers(), 3);
    }

    @Edge(in = "Promise 16", says = "1 if the two threads are in the same layer in every division, else 0")
    static void togetherByTheLastCrossing(Check check) {
        for (int t = 0; t < 7; t++) {
            check.due("held: together(" + t + ", 7)", heldByTheLastCrossing(true).together(t, 7), 1);
            check.due("not held: together(" + t + ", 7)", heldByTheLastCrossing(false).together(t, 7), 0);
            check.due("not held: together(0, " + t + ")", heldByTheLastCrossing(false).together(0, t), 1);
        }
        check.due("held: together(7, 15)", heldByTheLastCrossing(true).together(7, 15), 1);
        check.due("not held: together(7, 15)", heldByTheLastCrossing(false).together(7, 15), 0);
    }

    @Edge(in = "Promise 17", says = "How many sets of threads, except the empty one and that of all threads, can be lifted off")
    static void liftsByTheLastCrossing(Check check) {
        check.due("held: lifts()", heldByTheLastCrossing(true).lifts(), 0);
        check.due("not held: lifts()", heldByTheLastCrossing(false).lifts(), 2);
    }

    @Edge(in = "Promise 18", says = "How many divisions there are in as many layers as layers() says")
    static void divisionsByTheLastCrossing(Check check) {
        check.due("held: divisions()", heldByTheLastCrossing(true).divisions(), 1);
        check.due("not held: divisions()", heldByTheLastCrossing(false).divisions(), 1);
    }

    // Promises 14 to 18: 8 x 8, where only the last two warps and wefts hold each
    // other. From above: 6 wefts, these four threads, 6 warps.

    private static ClothDraft lastFourThreadsHeld() {
        ClothDraft x = new ClothDraft(8, 8);
        x.thread(6, 2);
        x.thread(7, 1);
        x.treadle(6, 2);
        x.treadle(7, 1);
        x.tie(1, 2);
        x.tie(2, 4);
        return x;
    }

    @Edge(in = "Promise 14", says = "1 if the cloth hangs together, else 0")
    static void hangsIs0WhereOnlyTheLastFourThreadsHold(Check check) {
        check.due("hangs()", lastFourThreadsHeld().hangs(), 0);
    }

    @Edge(in = "Promise 15", says = "The greatest k for which there is a division in k layers")
    static void layersWhereOnlyTheLastFourThreadsHold(Check check) {
        check.due("layers()", lastFourThreadsHeld().layers(), 13);
    }

    @Edge(in = "Promise 16", says = "1 if the two threads are in the same layer in every division, else 0")
    static void togetherWhereOnlyTheLastFourThreadsHold(Check check) {
        ClothDraft x = lastFourThreadsHeld();
        for (int a = 0; a < 16; a++) {
            for (int b = 0; b < 16; b++) {
                boolean due = a == b || a % 8 >= 6 && b % 8 >= 6;
                check.due("together(" + a + ", " + b + ")", x.together(a, b), bit(due));
            }
        }
    }

    @Edge(in = "Promise 17", says = "How many sets of threads, except the empty one and that of all threads, can be lifted off")
    static void liftsWhereOnlyTheLastFourThreadsHold(Check check) {
        check.due("lifts()", lastFourThreadsHeld().lifts(), 63 + 1 + 63 - 1);
    }

    @Edge(in = "Promise 18", says = "How many divisions there are in as many layers as layers() says")
    static void divisionsWhereOnlyTheLastFourThreadsHold(Check check) {
        check.due("divisions()", lastFourThreadsHeld().divisions(), 720 * 720);
    }

    // Promises 14 to 18: as many layers as there can be. In a new cloth all wefts
    // are above all warps; in a stair of 8 x 8, two threads follow upon two.

    private static void newCloths(Check check, String name, IntBinaryOperator due) {
        Call call = Call.named(name);
        for (int w = 1; w <= 8; w++) {
            for (int h = 1; h <= 8; h++) {
                ClothDraft x = new ClothDraft(w, h);
                check.due(w + " x " + h + ", wefts above: " + name + "()", call.on(x, 0, 0), due.applyAsInt(w, h));
                x.invert();
                check.due(w + " x " + h + ", warps above: " + name + "()", call.on(x, 0, 0), due.applyAsInt(w, h));
            }
        }
    }

    @Edge(in = "Promise 14", says = "1 if the cloth hangs together, else 0")
    static void hangsOfAsManyLayersAsCanBeIs0(Check check) {
        newCloths(check, "hangs", (w, h) -> 0);
        check.due("stair: hangs()", Cloths.stair(8, 8).hangs(), 0);
    }

    @Edge(in = "Promise 15", says = "The greatest k for which there is a division in k layers")
    static void layersAreAtMostAsManyAsThreads(Check check) {
        newCloths(check, "layers", (w, h) -> w + h);
        check.due("stair: layers()", Cloths.stair(8, 8).layers(), 16);
    }

    @Edge(in = "Promise 16", says = "1 if the two threads are in the same layer in every division, else 0")
    static void togetherOfAsManyLayersAsCanBeIs0(Check check) {
        for (ClothDraft x : new ClothDraft[] {new ClothDraft(8, 8), Cloths.stair(8, 8)}) {
            for (int a = 0; a < 16; a++) {
                for (int b = 0; b < 16; b++) {
                    check.due("together(" + a + ", " + b + ")", x.together(a, b), bit(a == b));
                }
            }
        }
    }

    @Edge(in = "Promise 17", says = "How many sets of threads, except the empty one and that of all threads, can be lifted off")
    static void liftsOfAsManyLayersAsCanBe(Check check) {
        newCloths(check, "lifts", (w, h) -> (1 << w) + (1 << h) - 3);
        check.due("the most there can be: lifts()", new ClothDraft(8, 8).lifts(), 509);
        check.due("stair: lifts()", Cloths.stair(8, 8).lifts(), 8 * 3 - 1);
    }

    @Edge(in = "Promise 18", says = "How many divisions there are in as many layers as layers() says")
    static void divisionsOfAsManyLayersAsCanBe(Check check) {
        newCloths(check, "divisions", (w, h) -> FACTORIAL[w] * FACTORIAL[h]);
        check.due("the most there can be: divisions()", new ClothDraft(8, 8).divisions(), 1625702400);
        check.due("stair: divisions()", Cloths.stair(8, 8).divisions(), 256);
    }

    @Edge(in = "Promise 18", says = "How many divisions there are in as many layers as layers() says")
    static void divisionsInFewerLayersAreNotCounted(Check check) {
        // In one, two, three and four layers there are 1, 3, 3 and 1 divisions.
        check.due("four layers: divisions()", fourLayers().divisions(), 1);
    }

    // Promises 15 to 18: 8 warps and 8 wefts, shared out to the shafts and treadles
    // in every way. The letters tell the threads from above: A a warp, B a weft, K
    // all the threads of a piece that holds together. Where equal letters follow
    // on each other, those threads cross the same others in the same way.

    private interface Shared {
        void look(int[] warps, int[] wefts);
    }

    private static void everyShare(int least, Shared shared) {
        for (int[] warps : shares(least)) {
            for (int[] wefts : shares(least)) {
                shared.look(warps, wefts);
            }
        }
    }

    /** All ways to share 8 threads out to four, of which the first two get at least so many. */
    private static List<int[]> shares(int least) {
        List<int[]> found = new ArrayList<>();
        for (int a = least; a <= 8; a++) {
            for (int b = least; a + b <= 8; b++) {
                for (int c = 0; a + b + c <= 8; c++) {
                    found.add(new int[] {a, b, c, 8 - a - b - c});
                }
            }
        }
        return found;
    }

    private static void share(ClothDraft x, int[] warps, int[] wefts) {
        int c = 0;
        int r = 0;
        for (int i = 0; i < 4; i++) {
            for (int n = 0; n < warps[i]; n++) {
                x.thread(c++, i);
            }
            for (int n = 0; n < wefts[i]; n++) {
                x.treadle(r++, i);
            }
        }
    }

    private static ClothDraft sharedStair(int[] warps, int[] wefts) {
        ClothDraft x = Cloths.stair(8, 8);
        share(x, warps, wefts);
        return x;
    }

    private static String stairFromAbove(int[] warps, int[] wefts) {
        StringBuilder text = new StringBuilder();
        for (int i = 3; i >= 0; i--) {
            text.append("A".repeat(warps[i])).append("B".repeat(wefts[i]));
        }
        return text.toString();
    }

    /** The threads on shafts 0 and 1 and with treadles 0 and 1 hold each other; there is at least one of each. */
    private static ClothDraft sharedPiece(int[] warps, int[] wefts) {
        ClothDraft x = Cloths.straight(8, 8, 9, 10, 0, 11);
        share(x, warps, wefts);
        return x;
    }

    private static String pieceFromAbove(int[] warps, int[] wefts) {
        return "B".repeat(wefts[2]) + "A".repeat(warps[3]) + "K" + "B".repeat(wefts[3]) + "A".repeat(warps[2]);
    }

    private static void everyLayering(Check check, String name, ToIntFunction<String> due) {
        Call call = Call.named(name);
        everyShare(0, (warps, wefts) -> {
            String fromAbove = stairFromAbove(warps, wefts);
            check.due(fromAbove + ": " + name + "()", call.on(sharedStair(warps, wefts), 0, 0), due.applyAsInt(fromAbove));
        });
        everyShare(1, (warps, wefts) -> {
            String fromAbove = pieceFromAbove(warps, wefts);
            check.due(fromAbove + ": " + name + "()", call.on(sharedPiece(warps, wefts), 0, 0), due.applyAsInt(fromAbove));
        });
    }

    /** How many equal letters follow on each other, from above. */
    private static int[] levels(String fromAbove) {
        return Arrays.stream(fromAbove.split("(?<=A)(?!A)|(?<=B)(?!B)|(?<=K)")).mapToInt(String::length).toArray();
    }

    @Edge(in = "Promise 14", says = "1 if the cloth hangs together, else 0")
    static void hangsOfEveryLayering(Check check) {
        everyLayering(check, "hangs", fromAbove -> bit(fromAbove.equals("K")));
    }

    @Edge(in = "Promise 15", says = "The greatest k for which there is a division in k layers")
    static void layersOfEveryLayering(Check check) {
        everyLayering(check, "layers", String::length);
    }

    @Edge(in = "Promise 16", says = "1 if the two threads are in the same layer in every division, else 0")
    static void togetherInAPieceBetweenOtherThreads(Check check) {
        everyShare(1, (warps, wefts) -> {
            ClothDraft x = sharedPiece(warps, wefts);
            for (int a = 0; a < 16; a++) {
                for (int b = 0; b < 16; b++) {
                    boolean due = a == b || isInPiece(a, warps, wefts) && isInPiece(b, warps, wefts);
                    check.due("together(" + a + ", " + b + ")", x.together(a, b), bit(due));
                }
            }
        });
    }

    private static boolean isInPiece(int thread, int[] warps, int[] wefts) {
        return thread < 8 ? thread < warps[0] + warps[1] : thread - 8 < wefts[0] + wefts[1];
    }

    @Edge(in = "Promise 17", says = "How many sets of threads, except the empty one and that of all threads, can be lifted off")
    static void liftsOfEveryLayering(Check check) {
        everyLayering(check, "lifts", fromAbove -> Arrays.stream(levels(fromAbove)).map(n -> (1 << n) - 1).sum() - 1);
    }

    @Edge(in = "Promise 18", says = "How many divisions there are in as many layers as layers() says")
    static void divisionsOfEveryLayering(Check check) {
        everyLayering(check, "divisions", fromAbove -> Arrays.stream(levels(fromAbove)).map(n -> FACTORIAL[n]).reduce(1, (m, n) -> m * n));
    }

    // Promise 16: which threads are there

    private static void absentThreads(Check check, int from, int to, boolean first, boolean second) {
        for (int w = 1; w <= 8; w++) {
            for (int h = 1; h <= 8; h++) {
                ClothDraft x = Cloths.plainWeave(w, h);
                for (int t = from; t <= to; t++) {
                    int a = first ? t : 0;
                    int b = second ? t : 8;
                    boolean refused = x.together(a, b) == ClothDraft.BAD_ARG;
                    String call = w + " x " + h + ": together(" + a + ", " + b + ") is refused";
                    check.due(call, refused, !Cloths.isThread(t, w, h));
                }
            }
        }
    }

    @Edge(in = "Promise 16", says = "BAD_ARG if one of them is not there")
    static void togetherRefusesAFirstThreadBelow0(Check check) {
        absentThreads(check, -3, 0, true, false);
    }

    @Edge(in = "Promise 16", says = "BAD_ARG if one of them is not there")
    static void togetherRefusesAFirstThreadBetweenTheLastWarpAndTheFirstWeft(Check check) {
        absentThreads(check, 0, 8, true, false);
    }

    @Edge(in = "Promise 16", says = "BAD_ARG if one of them is not there")
    static void togetherRefusesAFirstThreadBehindTheLastWeft(Check check) {
        absentThreads(check, 8, 18, true, false);
    }

    @Edge(in = "Promise 16", says = "BAD_ARG if one of them is not there")
    static void togetherRefusesASecondThreadBelow0(Check check) {
        absentThreads(check, -3, 0, false, true);
    }

    @Edge(in = "Promise 16", says = "BAD_ARG if one of them is not there")
    static void togetherRefusesASecondThreadBetweenTheLastWarpAndTheFirstWeft(Check check) {
        absentThreads(check, 0, 8, false, true);
    }

    @Edge(in = "Promise 16", says = "BAD_ARG if one of them is not there")
    static void togetherRefusesASecondThreadBehindTheLastWeft(Check check) {
        absentThreads(check, 8, 18, false, true);
    }

    @Edge(in = "Promise 16", says = "BAD_ARG if one of them is not there")
    static void togetherRefusesAThreadWithItselfThatIsNotThere(Check check) {
        absentThreads(check, -3, 18, true, true);
    }

    @Edge(in = "Promise 16", says = "BAD_ARG if one of them is not there")
    static void togetherRefusesFarAway(Check check) {
        ClothDraft x = Cloths.plainWeave(8, 8);
        for (int t : new int[] {Integer.MIN_VALUE, Integer.MIN_VALUE + 8, -16, 24, 32, Integer.MAX_VALUE}) {
            check.refused("together(" + t + ", 8)", x.together(t, 8));
            check.refused("together(0, " + t + ")", x.together(0, t));
            check.refused("together(" + t + ", " + t + ")", x.together(t, t));
        }
    }

    @Edge(in = "Promise 16", says = "1 if the two threads are in the same layer in every division")
    static void togetherOfAThreadWithItselfIs1(Check check) {
        for (ClothDraft x : new ClothDraft[] {new ClothDraft(8, 8), Cloths.stair(8, 8), lastWeftAboveAll()}) {
            for (int t = 0; t < 16; t++) {
                check.due("together(" + t + ", " + t + ")", x.together(t, t), 1);
            }
        }
    }
}
