/** The boundary cases that stand in the document's terms and in its public face. */
public final class TermsEdgeTest {
    private static final int[] EXTREMES = {Integer.MIN_VALUE, -17, -16, -9, -8, -4, -2, -1, 0, 1, 2, 3, 4, 5, 7, 8, 9,
        14, 15, 16, 17, 31, 32, 33, 65535, Integer.MAX_VALUE};

    public static void main(String[] args) {
        Edges.run(TermsEdgeTest.class);
    }

    @Edge(in = "What it is", says = "An object is used for at most 512 calls after it has been made")
    static void the512thCallIsStillAnswered(Check check) {
        for (Call call : Call.ALL) {
            ClothDraft fresh = new ClothDraft(3, 3);
            ClothDraft worn = new ClothDraft(3, 3);
            // 510 calls are an even number of turns: all is again as it was.
            for (int i = 1; i <= 510; i++) {
                check.due("call " + i + ", invert()", worn.invert(), i % 2 == 0 ? 0 : 16);
            }
            check.due("call 511, tie(0, 2)", worn.tie(0, 2), fresh.tie(0, 2));
            check.due("call 512, " + call.with(1, 1), call.on(worn, 1, 1), call.on(fresh, 1, 1));
        }
    }

    @Edge(in = "The public face", says = "public static final int BAD_ARG = -1;")
    static void badArgIsMinus1(Check check) {
        check.due("BAD_ARG", ClothDraft.BAD_ARG, -1);
        check.due("above(1, 0) where there is no warp 1", new ClothDraft(1, 1).above(1, 0), -1);
    }

    @Edge(in = "The public face", says = "public static final int NONE = -4;")
    static void noneIsMinus4(Check check) {
        check.due("NONE", ClothDraft.NONE, -4);
    }

    @Edge(in = "Terms", says = "There are w WARPS (1 to 8), numbered from 0 on")
    static void warpsAreNumberedFrom0ToWMinus1(Check check) {
        for (int w = 1; w <= 8; w++) {
            ClothDraft x = new ClothDraft(w, 1);
            for (int c = -1; c <= 9; c++) {
                check.due(w + " warps: above(" + c + ", 0)", x.above(c, 0), c >= 0 && c < w ? 0 : -1);
            }
        }
    }

    @Edge(in = "Terms", says = "h WEFTS (1 to 8), numbered from 0 on")
    static void weftsAreNumberedFrom0ToHMinus1(Check check) {
        for (int h = 1; h <= 8; h++) {
            ClothDraft x = new ClothDraft(1, h);
            for (int r = -1; r <= 9; r++) {
                check.due(h + " wefts: above(0, " + r + ")", x.above(0, r), r >= 0 && r < h ? 0 : -1);
            }
        }
    }

    @Edge(in = "Terms", says = "each warp crosses each weft once")
    static void eachWarpCrossesEachWeftOnce(Check check) {
        for (int w = 1; w <= 8; w++) {
            for (int h = 1; h <= 8; h++) {
                ClothDraft x = new ClothDraft(w, h);
                String at = w + " x " + h + ": ";
                check.due(at + "over(8), all wefts above", x.over(8), w);
                check.due(at + "longest(0), all wefts above", x.longest(0), h);
                x.invert();
                check.due(at + "over(0), all warps above", x.over(0), h);
                check.due(at + "longest(8), all warps above", x.longest(8), w);
            }
        }
    }

    @Edge(in = "Terms", says = "warp c is thread c, weft r is thread 8 + r")
    static void warp7IsThread7AndWeft0IsThread8(Check check) {
        ClothDraft x = new ClothDraft(8, 5);
        x.thread(7, 1);
        x.tie(0, 2);
        check.due("over(7), warp 7 above all 5 wefts", x.over(7), 5);
        check.due("over(6), warp 6 above none", x.over(6), 0);
        check.due("over(8), weft 0 above all warps but one", x.over(8), 7);
        check.due("over(12), weft 4 above all warps but one", x.over(12), 7);
        check.refused("over(13), no weft 5", x.over(13));
    }

    @Edge(in = "Terms", says = "warp c is thread c, weft r is thread 8 + r")
    static void weft0IsThread8HoweverFewTheWarps(Check check) {
        for (int w = 1; w <= 8; w++) {
            ClothDraft x = new ClothDraft(w, 8);
            check.due(w + " warps: over(8), weft 0 above all warps", x.over(8), w);
            check.due(w + " warps: over(15), weft 7 above all warps", x.over(15), w);
            check.due(w + " warps: over(w - 1), the last warp under all wefts", x.over(w - 1), 0);
            check.due(w + " warps: over(w), the first weft only if w is 8", x.over(w), w == 8 ? w : -1);
        }
    }

    @Edge(in = "Terms", says = "sets of threads are sums of 2^t for their threads t")
    static void theFirstAndTheLastThreadHaveTheBits0And15(Check check) {
        ClothDraft x = new ClothDraft(8, 8);
        x.thread(0, 1);
        x.tie(0, 2);
        check.due("liftable(1), warp 0 above all wefts", x.liftable(1), 1);
        check.due("liftable(2), warp 1 under all wefts", x.liftable(2), 0);
        ClothDraft y = new ClothDraft(8, 8);
        y.treadleAll(1, 0);
        y.treadle(7, 0);
        y.tie(1, 1);
        check.due("liftable(32768), weft 7 above all warps", y.liftable(32768), 1);
        check.due("liftable(16384), weft 6 under all warps", y.liftable(16384), 0);
    }

    @Edge(in = "Terms", says = "Each warp is THREADED on one of the SHAFTS 0 to 3")
    static void aWarpIsOnOneShaftAtATime(Check check) {
        ClothDraft x = Cloths.straight(1, 4, 1, 2, 4, 8);
        for (int shaft : new int[] {0, 3, 1, 2, 0}) {
            x.thread(0, shaft);
            for (int r = 0; r < 4; r++) {
                check.due("on shaft " + shaft + ": above(0, " + r + ")", x.above(0, r), r == shaft ? 1 : 0);
            }
        }
    }

    @Edge(in = "Terms", says = "each weft is TREADLED with one of the TREADLES 0 to 3")
    static void aWeftIsWithOneTreadleAtATime(Check check) {
        ClothDraft x = Cloths.straight(4, 1, 1, 2, 4, 8);
        for (int treadle : new int[] {0, 3, 1, 2, 0}) {
            x.treadle(0, treadle);
            for (int c = 0; c < 4; c++) {
                check.due("with treadle " + treadle + ": above(" + c + ", 0)", x.above(c, 0), c == treadle ? 1 : 0);
            }
        }
    }

    @Edge(in = "Terms", says = "each treadle is TIED to some of the shafts")
    static void aTreadleMayBeTiedToAnySetOfShafts(Check check) {
        String[] due = {"0000", "1000", "0100", "1100", "0010", "1010", "0110", "1110",
            "0001", "1001", "0101", "1101", "0011", "1011", "0111", "1111"};
        for (int set = 0; set < 16; set++) {
            ClothDraft x = Cloths.straight(4, 4, set, 15 - set, set, set);
            check.due("tie(0, " + set + "), weft 0", Cloths.weft(x, 0, 4), due[set]);
            check.due("tie(1, " + (15 - set) + "), weft 1", Cloths.weft(x, 1, 4), due[15 - set]);
            check.due("tie(2, " + set + "), weft 2", Cloths.weft(x, 2, 4), due[set]);
            check.due("tie(3, " + set + "), weft 3", Cloths.weft(x, 3, 4), due[set]);
        }
    }

    @Edge(in = "Terms", says = "the warp is ABOVE the weft if the treadle of the weft is tied to the shaft of the warp")
    static void oneTieRaisesJustTheWarpsOfItsShaft(Check check) {
        for (int treadle = 0; treadle < 4; treadle++) {
            for (int shaft = 0; shaft < 4; shaft++) {
                ClothDraft x = Cloths.straight(4, 4, 0, 0, 0, 0);
                x.tie(treadle, 1 << shaft);
                check.due("one tie, over(" + shaft + ")", x.over(shaft), 1);
                check.due("one tie, above(" + shaft + ", " + treadle + ")", x.above(shaft, treadle), 1);
            }
        }
    }

    @Edge(in = "Terms", says = "else the weft is above the warp")
    static void oneTieThatIsNotThereLeavesJustOneWeftAbove(Check check) {
        for (int treadle = 0; treadle < 4; treadle++) {
            for (int shaft = 0; shaft < 4; shaft++) {
                ClothDraft x = Cloths.straight(4, 4, 15, 15, 15, 15);
                x.tie(treadle, 15 - (1 << shaft));
                check.due("all ties but one, over(" + (8 + treadle) + ")", x.over(8 + treadle), 1);
                check.due("all ties but one, over(" + shaft + ")", x.over(shaft), 3);
                check.due("all ties but one, above(" + shaft + ", " + treadle + ")", x.above(shaft, treadle), 0);
            }
        }
    }

    @Edge(in = "Terms", says = "every thread in it is above every thread not in it that it crosses")
    static void oneCrossingKeepsASetFromBeingLifted(Check check) {
        ClothDraft x = new ClothDraft(8, 8);
        x.invert();
        int warps = 255;
        check.due("liftable(255), all warps above all wefts", x.liftable(warps), 1);
        x.thread(7, 1);
        x.treadle(7, 1);
        x.tie(1, 13);
        check.due("above(7, 7)", x.above(7, 7), 0);
        check.due("liftable(255), weft 7 above warp 7", x.liftable(warps), 0);
        check.due("liftable(127), without warp 7", x.liftable(127), 1);
        check.due("liftable(33023), with weft 7", x.liftable(warps + 32768), 1);
    }

    @Edge(in = "Terms", says = "no set of threads, except the empty one and that of all threads, can be lifted off")
    static void theEmptySetAndAllThreadsDoNotKeepAClothFromHanging(Check check) {
        ClothDraft x = Cloths.plainWeave(2, 2);
        check.due("liftable(0)", x.liftable(0), 1);
        check.due("liftable(771), all threads", x.liftable(771), 1);
        check.due("hangs()", x.hangs(), 1);
    }

    @Edge(in = "Terms", says = "no set of threads, except the empty one and that of all threads, can be lifted off")
    static void oneOtherSetKeepsAClothFromHanging(Check check) {
        ClothDraft x = Cloths.cloth("10", "01", "11");
        check.due("lifts()", x.lifts(), 1);
        check.due("liftable(771), all but weft 2", x.liftable(771), 1);
        check.due("hangs()", x.hangs(), 0);
    }

    @Edge(in = "Terms", says = "gives every thread one of k layers, each of which has at least one thread")
    static void thereAreNoMoreLayersThanThreads(Check check) {
        for (int w = 1; w <= 8; w++) {
            for (int h = 1; h <= 8; h++) {
                check.due(w + " x " + h + ": layers()", new ClothDraft(w, h).layers(), w + h);
                check.due(w + " x " + h + ", a stair: layers()", Cloths.stair(w, h).layers(), w + h);
            }
        }
    }

    @Edge(in = "Terms", says = "gives every thread one of k layers")
    static void allThreadsInOneLayerAreADivision(Check check) {
        ClothDraft x = Cloths.plainWeave(8, 8);
        check.due("layers()", x.layers(), 1);
        check.due("divisions()", x.divisions(), 1);
    }

    @Edge(in = "Terms", says = "such that a thread in a higher layer is above every thread in a lower layer that it crosses")
    static void threadsThatDoNotCrossGoInAnyLayers(Check check) {
        // The two warps do not cross: either can be in the higher layer.
        ClothDraft x = new ClothDraft(2, 1);
        check.due("layers()", x.layers(), 3);
        check.due("divisions()", x.divisions(), 2);
        check.due("together(0, 1)", x.together(0, 1), 0);
    }

    @Edge(in = "Terms", says = "such that a thread in a higher layer is above every thread in a lower layer that it crosses")
    static void oneCrossingJoinsTwoLayers(Check check) {
        check.due("layers(), two pieces", Cloths.cloth("1011", "0111", "0010", "0001").layers(), 2);
        check.due("layers(), the two caught once", Cloths.cloth("1011", "0111", "1010", "0001").layers(), 1);
    }

    @Edge(in = "Terms", says = "A FLOAT of a thread is a row of crossings, next to each other on that thread")
    static void aFloatDoesNotGoAroundTheEnd(Check check) {
        ClothDraft x = Cloths.cloth("1101", "1101", "0010", "1101");
        check.due("longest(8), over over under over", x.longest(8), 2);
        check.due("longest(0), over over under over", x.longest(0), 2);
        check.due("longest(2), under under over under", x.longest(2), 2);
    }

    @Edge(in = "Terms", says = "A FLOAT of a thread is a row of crossings, next to each other on that thread")
    static void twoFloatsOfAThreadAreNotAddedUp(Check check) {
        ClothDraft x = Cloths.cloth("1", "1", "0", "1", "1", "0", "1", "1");
        check.due("over(0)", x.over(0), 6);
        check.due("longest(0)", x.longest(0), 2);
    }

    @Edge(in = "Terms", says = "at which it is above all the others, or at which all the others are above it")
    static void aFloatIsAllAboveOrAllBelow(Check check) {
        ClothDraft x = Cloths.cloth("1110", "0001");
        check.due("longest(8), under 3 warps", x.longest(8), 3);
        check.due("longest(9), over 3 warps", x.longest(9), 3);
        check.due("longest(0), over then under", x.longest(0), 1);
        check.due("longest(3), under then over", x.longest(3), 1);
    }

    @Edge(in = "Terms", says = "No call ever throws.")
    static void noCallThrows(Check check) {
        for (Call call : Call.ALL) {
            for (int a : EXTREMES) {
                ClothDraft[] cloths = {new ClothDraft(1, 1), Cloths.uneven(), Cloths.stair(8, 8)};
                for (int b : EXTREMES) {
                    for (ClothDraft x : cloths) {
                        check.due(call.with(a, b), thrown(call, x, a, b), "nothing thrown");
                    }
                }
            }
        }
    }

    @Edge(in = "Terms", says = "No call ever throws.")
    static void noConstructorThrows(Check check) {
        Call make = new Call("new ClothDraft", 2, (x, a, b) -> new ClothDraft(a, b).layers());
        for (int warps : EXTREMES) {
            for (int wefts : EXTREMES) {
                check.due(make.with(warps, wefts), thrown(make, null, warps, wefts), "nothing thrown");
            }
        }
    }

    private static String thrown(Call call, ClothDraft x, int a, int b) {
        try {
            call.on(x, a, b);
            return "nothing thrown";
        } catch (Throwable thrown) {
            return thrown.toString();
        }
    }

    @Edge(in = "Terms", says = "A refused call answers the code named and changes nothing.")
    static void aRefusedSettingChangesNothing(Check check) {
        for (int wrong : new int[] {Integer.MIN_VALUE, -1, 16, Integer.MAX_VALUE}) {
            for (String name : new String[] {"thread", "treadle", "tie", "threadAll", "treadleAll"}) {
                refusalChangesNothing(check, name, wrong, 3);
                refusalChangesNothing(check, name, 2, wrong);
                refusalChangesNothing(check, name, wrong, wrong);
            }
        }
    }

    @Edge(in = "Terms", says = "A refused call answers the code named and changes nothing.")
    static void aRefusedQuestionChangesNothing(Check check) {
        for (int wrong : new int[] {Integer.MIN_VALUE, -1, 5, 16, Integer.MAX_VALUE}) {
            for (String name : new String[] {"above", "together"}) {
                refusalChangesNothing(check, name, 2, wrong);
                refusalChangesNothing(check, name, wrong, wrong);
            }
            for (String name : new String[] {"above", "together", "longest", "over"}) {
                refusalChangesNothing(check, name, wrong, 2);
            }
        }
    }

    private static void refusalChangesNothing(Check check, String name, int a, int b) {
        Call call = Call.named(name);
        ClothDraft x = Cloths.uneven();
        check.refused(call.with(a, b), call.on(x, a, b));
        check.due("answers after " + call.with(a, b), Cloths.answers(x), Cloths.answers(Cloths.uneven()));
        check.due("state after " + call.with(a, b), Cloths.state(x), Cloths.state(Cloths.uneven()));
    }
}
