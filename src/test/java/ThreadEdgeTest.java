/** The boundary cases of promises 8 to 12: crossings, threads, and what the cloth needs of the loom. */
public final class ThreadEdgeTest {
    private static final int LOW = Integer.MIN_VALUE;
    private static final int HIGH = Integer.MAX_VALUE;

    public static void main(String[] args) {
        Edges.run(ThreadEdgeTest.class);
    }

    // Promise 8

    @Edge(in = "Promise 8", says = "BAD_ARG if there is no warp c or no weft r")
    static void aboveRefusesAWarpBelow0(Check check) {
        ClothDraft x = Cloths.stair(8, 8);
        for (int c : new int[] {LOW, -8, -1}) {
            check.refused("above(" + c + ", 7)", x.above(c, 7));
        }
    }

    @Edge(in = "Promise 8", says = "BAD_ARG if there is no warp c or no weft r")
    static void aboveRefusesAWarpFromWOn(Check check) {
        for (int w = 1; w <= 8; w++) {
            ClothDraft x = Cloths.stair(w, 8);
            for (int c : new int[] {w, w + 1, 8, 16, HIGH}) {
                check.refused(w + " warps: above(" + c + ", 7)", x.above(c, 7));
            }
        }
    }

    @Edge(in = "Promise 8", says = "BAD_ARG if there is no warp c or no weft r")
    static void aboveRefusesAWeftBelow0(Check check) {
        ClothDraft x = Cloths.stair(8, 8);
        for (int r : new int[] {LOW, -8, -1}) {
            check.refused("above(7, " + r + ")", x.above(7, r));
        }
    }

    @Edge(in = "Promise 8", says = "BAD_ARG if there is no warp c or no weft r")
    static void aboveRefusesAWeftFromHOn(Check check) {
        for (int h = 1; h <= 8; h++) {
            ClothDraft x = Cloths.stair(8, h);
            for (int r : new int[] {h, h + 1, 8, 16, HIGH}) {
                check.refused(h + " wefts: above(7, " + r + ")", x.above(7, r));
            }
        }
    }

    @Edge(in = "Promise 8", says = "BAD_ARG if there is no warp c or no weft r")
    static void aboveRefusesWhenBothAreNotThere(Check check) {
        ClothDraft x = Cloths.stair(3, 5);
        check.refused("above(-1, 5)", x.above(-1, 5));
        check.refused("above(3, -1)", x.above(3, -1));
    }

    @Edge(in = "Promise 8", says = "1 if warp c is above weft r, 0 if not")
    static void aboveAnswersAtTheFourCorners(Check check) {
        ClothDraft x = new ClothDraft(8, 8);
        x.thread(7, 1);
        x.treadle(7, 1);
        x.tie(0, 2);
        x.tie(1, 1);
        check.due("above(0, 0)", x.above(0, 0), 0);
        check.due("above(7, 0)", x.above(7, 0), 1);
        check.due("above(0, 7)", x.above(0, 7), 1);
        check.due("above(7, 7)", x.above(7, 7), 0);
    }

    @Edge(in = "Promise 8", says = "1 if warp c is above weft r, 0 if not")
    static void aboveAnswersAtEveryCrossing(Check check) {
        for (int c = 0; c < 8; c++) {
            for (int r = 0; r < 8; r++) {
                ClothDraft x = new ClothDraft(8, 8);
                x.thread(c, 1);
                x.treadle(r, 2);
                x.tie(2, 2);
                check.due("above(" + c + ", " + r + "), the one tie", x.above(c, r), 1);
                check.due("warps above weft " + r, 8 - x.over(8 + r), 1);
                check.due("wefts under warp " + c, x.over(c), 1);
                x.invert();
                check.due("above(" + c + ", " + r + "), all ties but one", x.above(c, r), 0);
            }
        }
    }

    // Promises 9 and 10

    /** One warp and one weft, each above just those of the others that the pattern tells with a 1. */
    private interface OnePattern {
        void look(ClothDraft oneWarp, ClothDraft oneWeft, String pattern);
    }

    /** One thread that crosses 1 to 8 others, above them and under them in every way. */
    private static void everyPattern(OnePattern look) {
        for (int n = 1; n <= 8; n++) {
            for (int above = 0; above < 1 << n; above++) {
                ClothDraft oneWarp = new ClothDraft(1, n);
                ClothDraft oneWeft = new ClothDraft(n, 1);
                oneWarp.tie(1, 1);
                oneWeft.tie(0, 1);
                StringBuilder pattern = new StringBuilder();
                for (int i = 0; i < n; i++) {
                    int isAbove = above >> i & 1;
                    oneWarp.treadle(i, isAbove);
                    oneWeft.thread(i, isAbove);
                    pattern.append(isAbove);
                }
                look.look(oneWarp, oneWeft, pattern.toString());
            }
        }
    }

    /** Each number near a thread is answered just when there is that thread, at every size. */
    private static void threads(Check check, String name, int from, int to) {
        for (int w = 1; w <= 8; w++) {
            for (int h = 1; h <= 8; h++) {
                ClothDraft x = Cloths.stair(w, h);
                for (int t = from; t <= to; t++) {
                    Call call = Call.named(name);
                    boolean refused = call.on(x, t, 0) == ClothDraft.BAD_ARG;
                    check.due(w + " x " + h + ": " + call.with(t, 0) + " is refused", refused, !Cloths.isThread(t, w, h));
                }
            }
        }
    }

    private static void refusesFarAway(Check check, String name) {
        Call call = Call.named(name);
        ClothDraft x = Cloths.stair(8, 8);
        for (int t : new int[] {LOW, LOW + 8, -16, -8, 24, 32, 65536, HIGH}) {
            check.refused(call.with(t, 0), call.on(x, t, 0));
        }
    }

    @Edge(in = "Promise 9", says = "BAD_ARG if there is no such thread")
    static void longestRefusesAThreadBelow0(Check check) {
        threads(check, "longest", -3, 0);
    }

    @Edge(in = "Promise 9", says = "BAD_ARG if there is no such thread")
    static void longestRefusesBetweenTheLastWarpAndTheFirstWeft(Check check) {
        threads(check, "longest", 0, 8);
    }

    @Edge(in = "Promise 9", says = "BAD_ARG if there is no such thread")
    static void longestRefusesBehindTheLastWeft(Check check) {
        threads(check, "longest", 8, 18);
    }

    @Edge(in = "Promise 9", says = "BAD_ARG if there is no such thread")
    static void longestRefusesFarAway(Check check) {
        refusesFarAway(check, "longest");
    }

    @Edge(in = "Promise 9", says = "The number of crossings in the longest float of the thread")
    static void longestIsAtLeast1(Check check) {
        ClothDraft plain = Cloths.plainWeave(8, 8);
        ClothDraft one = new ClothDraft(1, 1);
        check.due("longest(7), plain weave", plain.longest(7), 1);
        check.due("longest(15), plain weave", plain.longest(15), 1);
        check.due("longest(0), one crossing, under", one.longest(0), 1);
        check.due("longest(8), one crossing, over", one.longest(8), 1);
        one.invert();
        check.due("longest(0), one crossing, over", one.longest(0), 1);
        check.due("longest(8), one crossing, under", one.longest(8), 1);
    }

    @Edge(in = "Promise 9", says = "The number of crossings in the longest float of the thread")
    static void longestIsAtMostAllCrossings(Check check) {
        for (int n = 1; n <= 8; n++) {
            ClothDraft x = new ClothDraft(n, 9 - n);
            check.due("longest(0), under all", x.longest(0), 9 - n);
            check.due("longest(8), over all", x.longest(8), n);
            x.invert();
            check.due("longest(0), over all", x.longest(0), 9 - n);
            check.due("longest(8), under all", x.longest(8), n);
        }
    }

    @Edge(in = "Promise 9", says = "The number of crossings in the longest float of the thread")
    static void longestFindsTheFloatAtTheFirstCrossingAndAtTheLast(Check check) {
        check.due("longest(0), first", Cloths.cloth("1", "1", "1", "0", "1", "0", "0").longest(0), 3);
        check.due("longest(0), last", Cloths.cloth("0", "0", "1", "0", "1", "1", "1").longest(0), 3);
        check.due("longest(8), first", Cloths.cloth("0001").longest(8), 3);
        check.due("longest(8), last", Cloths.cloth("0111").longest(8), 3);
        check.due("longest(8), in the middle", Cloths.cloth("0110").longest(8), 2);
    }

    @Edge(in = "Promise 9", says = "The number of crossings in the longest float of the thread")
    static void longestOfEveryRowOfCrossings(Check check) {
        everyPattern((oneWarp, oneWeft, pattern) -> {
            int due = 0;
            for (int n = 1; n <= pattern.length(); n++) {
                due = pattern.contains("0".repeat(n)) || pattern.contains("1".repeat(n)) ? n : due;
            }
            check.due("a warp, above at " + pattern + ": longest(0)", oneWarp.longest(0), due);
            check.due("a weft, above at " + pattern + ": longest(8)", oneWeft.longest(8), due);
        });
    }

    @Edge(in = "Promise 10", says = "BAD_ARG if there is no such thread")
    static void overRefusesAThreadBelow0(Check check) {
        threads(check, "over", -3, 0);
    }

    @Edge(in = "Promise 10", says = "BAD_ARG if there is no such thread")
    static void overRefusesBetweenTheLastWarpAndTheFirstWeft(Check check) {
        threads(check, "over", 0, 8);
    }

    @Edge(in = "Promise 10", says = "BAD_ARG if there is no such thread")
    static void overRefusesBehindTheLastWeft(Check check) {
        threads(check, "over", 8, 18);
    }

    @Edge(in = "Promise 10", says = "BAD_ARG if there is no such thread")
    static void overRefusesFarAway(Check check) {
        refusesFarAway(check, "over");
    }

    @Edge(in = "Promise 10", says = "How many threads the thread is above")
    static void overIsAtLeast0(Check check) {
        ClothDraft x = new ClothDraft(8, 8);
        check.due("over(0), under all", x.over(0), 0);
        check.due("over(7), under all", x.over(7), 0);
        x.invert();
        check.due("over(8), under all", x.over(8), 0);
        check.due("over(15), under all", x.over(15), 0);
    }

    @Edge(in = "Promise 10", says = "How many threads the thread is above")
    static void overIsAtMostAllThatItCrosses(Check check) {
        for (int n = 1; n <= 8; n++) {
            ClothDraft x = new ClothDraft(n, 9 - n);
            check.due("over(8), over all " + n + " warps", x.over(8), n);
            x.invert();
            check.due("over(0), over all wefts but " + (n - 1), x.over(0), 9 - n);
        }
    }

    @Edge(in = "Promise 10", says = "How many threads the thread is above")
    static void overOfEveryRowOfCrossings(Check check) {
        everyPattern((oneWarp, oneWeft, pattern) -> {
            int due = pattern.replace("0", "").length();
            check.due("a warp, above at " + pattern + ": over(0)", oneWarp.over(0), due);
            check.due("a weft, above at " + pattern + ": over(8)", oneWeft.over(8), due);
        });
    }

    // Promise 11

    @Edge(in = "Promise 11", says = "The least number of shafts with which")
    static void shaftsIsAtLeast1(Check check) {
        check.due("shafts(), no tie", Cloths.straight(8, 8, 0, 0, 0, 0).shafts(), 1);
        check.due("shafts(), all ties", Cloths.straight(8, 8, 15, 15, 15, 15).shafts(), 1);
        check.due("shafts(), wefts that differ, warps that do not", Cloths.straight(8, 8, 15, 0, 15, 0).shafts(), 1);
        check.due("shafts(), one crossing", new ClothDraft(1, 1).shafts(), 1);
        check.due("shafts(), one warp", Cloths.stair(1, 8).shafts(), 1);
    }

    @Edge(in = "Promise 11", says = "The least number of shafts with which")
    static void shaftsIsAtMost4AndAtMostTheWarps(Check check) {
        int[] due = {1, 2, 3, 4, 4, 4, 4, 4};
        for (int w = 1; w <= 8; w++) {
            check.due(w + " warps: shafts()", Cloths.stair(w, 8).shafts(), due[w - 1]);
        }
    }

    @Edge(in = "Promise 11", says = "some threading, ties and treadles (any number of treadles)")
    static void shaftsOfFewWeftsIsAtMostTheirKindsOfWarp(Check check) {
        check.due("shafts(), one weft", Cloths.straight(8, 1, 5, 0, 0, 0).shafts(), 2);
        check.due("shafts(), two wefts", Cloths.straight(8, 2, 5, 3, 0, 0).shafts(), 4);
    }

    @Edge(in = "Promise 11", says = "the same cloth could be made")
    static void shaftsLooksAtTheClothAndNotAtTheLoom(Check check) {
        ClothDraft x = Cloths.straight(8, 8, 15, 14, 12, 8);
        x.treadleAll(0, 0);
        check.due("shafts(), all wefts with treadle 0", x.shafts(), 1);
        x.treadle(7, 3);
        check.due("shafts(), the last weft with treadle 3", x.shafts(), 2);
        x.threadAll(0, 0);
        check.due("shafts(), all warps on shaft 0", x.shafts(), 1);
    }

    @Edge(in = "Promise 11", says = "the same cloth could be made")
    static void shaftsTellsTheLastWarpApart(Check check) {
        ClothDraft x = new ClothDraft(8, 8);
        x.thread(7, 3);
        x.treadle(7, 3);
        x.tie(3, 8);
        check.due("shafts()", x.shafts(), 2);
    }

    // Promise 12

    @Edge(in = "Promise 12", says = "The least number of treadles with which")
    static void treadlesIsAtLeast1(Check check) {
        check.due("treadles(), no tie", Cloths.straight(8, 8, 0, 0, 0, 0).treadles(), 1);
        check.due("treadles(), all ties", Cloths.straight(8, 8, 15, 15, 15, 15).treadles(), 1);
        check.due("treadles(), warps that differ, wefts that do not", Cloths.straight(8, 8, 5, 5, 5, 5).treadles(), 1);
        check.due("treadles(), one crossing", new ClothDraft(1, 1).treadles(), 1);
        check.due("treadles(), one weft", Cloths.stair(8, 1).treadles(), 1);
    }

    @Edge(in = "Promise 12", says = "The least number of treadles with which")
    static void treadlesIsAtMost4AndAtMostTheWefts(Check check) {
        int[] due = {1, 2, 3, 4, 4, 4, 4, 4};
        for (int h = 1; h <= 8; h++) {
            check.due(h + " wefts: treadles()", Cloths.stair(8, h).treadles(), due[h - 1]);
        }
    }

    @Edge(in = "Promise 12", says = "some ties and treadling")
    static void treadlesOfFewWarpsIsAtMostTheirKindsOfWeft(Check check) {
        check.due("treadles(), one warp", Cloths.straight(1, 8, 0, 1, 2, 3).treadles(), 2);
        check.due("treadles(), two warps", Cloths.straight(2, 8, 0, 1, 2, 3).treadles(), 4);
    }

    @Edge(in = "Promise 12", says = "with the threading as it is")
    static void treadlesLooksAtNoShaftWithoutAWarp(Check check) {
        ClothDraft x = new ClothDraft(8, 8);
        x.treadleAll(0, 1);
        x.tie(1, 2);
        x.tie(2, 4);
        x.tie(3, 8);
        check.due("treadles(), all warps on shaft 0", x.treadles(), 1);
        x.thread(7, 3);
        check.due("treadles(), the last warp on shaft 3", x.treadles(), 2);
        x.threadAll(0, 1);
        check.due("treadles(), warps on all shafts", x.treadles(), 4);
    }

    @Edge(in = "Promise 12", says = "the same cloth could be made")
    static void treadlesTellsTheLastWeftApart(Check check) {
        ClothDraft x = new ClothDraft(8, 8);
        x.thread(7, 3);
        x.treadle(7, 3);
        x.tie(3, 8);
        check.due("treadles()", x.treadles(), 2);
    }
}
