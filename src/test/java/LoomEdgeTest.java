/** The boundary cases of promises 1 to 7: a new object, and the settings of the loom. */
public final class LoomEdgeTest {
    private static final int[] BELOW_0 = {Integer.MIN_VALUE, -9, -8, -4, -3, -2, -1};
    private static final int[] ABOVE_3 = {4, 5, 7, 8, 12, 15, 16, 32, Integer.MAX_VALUE};
    private static final int[] ABOVE_15 = {16, 17, 31, 32, 65535, 65536, Integer.MAX_VALUE};
    private static final int[] BELOW_1 = {Integer.MIN_VALUE, -8, -1, 0};
    private static final int[] ABOVE_8 = {9, 10, 16, 256, Integer.MAX_VALUE};

    // What 8 threads get from (first, step), at [first][step].
    private static final String[][] ROWS = {
        {"00000000", "01230123", "02020202", "03210321"},
        {"11111111", "12301230", "13131313", "10321032"},
        {"22222222", "23012301", "20202020", "21032103"},
        {"33333333", "30123012", "31313131", "32103210"}};

    public static void main(String[] args) {
        Edges.run(LoomEdgeTest.class);
    }

    /** A loom on which no shaft, treadle or set is one that the tests set, or 0. */
    private static ClothDraft loom(int w, int h) {
        ClothDraft made = new ClothDraft(w, h);
        made.threadAll(2, 0);
        made.treadleAll(2, 0);
        for (int i = 0; i < 4; i++) {
            made.tie(i, 6);
        }
        return made;
    }

    private static void refuses(Check check, ClothDraft x, String name, int a, int b) {
        Call call = Call.named(name);
        String before = Cloths.state(x);
        check.refused(call.with(a, b), call.on(x, a, b));
        check.due("state after " + call.with(a, b), Cloths.state(x), before);
    }

    private static void refusesFirst(Check check, String name, int[] wrong, int second) {
        for (int first : wrong) {
            refuses(check, loom(8, 8), name, first, second);
        }
    }

    private static void refusesSecond(Check check, String name, int first, int[] wrong) {
        for (int second : wrong) {
            refuses(check, loom(8, 8), name, first, second);
        }
    }

    private static void size(Check check, int warps, int wefts, int w, int h) {
        String due = "0".repeat(w) + " " + "0".repeat(h) + " 0 0 0 0";
        check.due("new ClothDraft(" + warps + ", " + wefts + ")", Cloths.state(new ClothDraft(warps, wefts)), due);
    }

    // Promise 1

    @Edge(in = "Promise 1", says = "each clamped into 1 to 8")
    static void newWithTooFewWarpsHasOne(Check check) {
        for (int warps : BELOW_1) {
            size(check, warps, 3, 1, 3);
        }
    }

    @Edge(in = "Promise 1", says = "each clamped into 1 to 8")
    static void newWithTooManyWarpsHas8(Check check) {
        for (int warps : ABOVE_8) {
            size(check, warps, 3, 8, 3);
        }
    }

    @Edge(in = "Promise 1", says = "each clamped into 1 to 8")
    static void newWithTooFewWeftsHasOne(Check check) {
        for (int wefts : BELOW_1) {
            size(check, 3, wefts, 3, 1);
        }
    }

    @Edge(in = "Promise 1", says = "each clamped into 1 to 8")
    static void newWithTooManyWeftsHas8(Check check) {
        for (int wefts : ABOVE_8) {
            size(check, 3, wefts, 3, 8);
        }
    }

    @Edge(in = "Promise 1", says = "each clamped into 1 to 8")
    static void newWithBothOutOfRangeIsClampedInBoth(Check check) {
        size(check, 0, 9, 1, 8);
        size(check, 9, 0, 8, 1);
        size(check, 0, 0, 1, 1);
        size(check, 9, 9, 8, 8);
        size(check, Integer.MIN_VALUE, Integer.MAX_VALUE, 1, 8);
        size(check, Integer.MAX_VALUE, Integer.MIN_VALUE, 8, 1);
    }

    @Edge(in = "Promise 1", says = "w is warps, h is wefts")
    static void newWithNumbersFrom1To8HasAsMany(Check check) {
        for (int w = 1; w <= 8; w++) {
            for (int h = 1; h <= 8; h++) {
                size(check, w, h, w, h);
            }
        }
    }

    @Edge(in = "Promise 1", says = "All warps are threaded on shaft 0")
    static void newHasEachWarpOnShaft0(Check check) {
        ClothDraft x = new ClothDraft(8, 1);
        for (int c = 0; c < 8; c++) {
            check.due("thread(" + c + ", 3)", x.thread(c, 3), 0);
        }
    }

    @Edge(in = "Promise 1", says = "all wefts treadled with treadle 0")
    static void newHasEachWeftWithTreadle0(Check check) {
        ClothDraft x = new ClothDraft(1, 8);
        for (int r = 0; r < 8; r++) {
            check.due("treadle(" + r + ", 3)", x.treadle(r, 3), 0);
        }
    }

    @Edge(in = "Promise 1", says = "no treadle is tied to a shaft")
    static void newHasEachTreadleUntied(Check check) {
        ClothDraft x = new ClothDraft(1, 1);
        for (int i = 0; i < 4; i++) {
            check.due("tie(" + i + ", 15)", x.tie(i, 15), 0);
        }
    }

    // Promise 2

    @Edge(in = "Promise 2", says = "BAD_ARG if c is not 0 to w - 1")
    static void threadRefusesAWarpBelow0(Check check) {
        refusesFirst(check, "thread", BELOW_0, 3);
    }

    @Edge(in = "Promise 2", says = "BAD_ARG if c is not 0 to w - 1")
    static void threadRefusesAWarpFromWOn(Check check) {
        for (int w = 1; w <= 8; w++) {
            for (int c : new int[] {w, w + 1, w + 8, 16, Integer.MAX_VALUE}) {
                refuses(check, loom(w, 8), "thread", c, 3);
            }
        }
    }

    @Edge(in = "Promise 2", says = "BAD_ARG if c is not 0 to w - 1")
    static void threadTakesTheFirstAndTheLastWarp(Check check) {
        for (int w = 2; w <= 8; w++) {
            ClothDraft x = loom(w, 1);
            check.due(w + " warps: thread(0, 3)", x.thread(0, 3), 2);
            check.due(w + " warps: thread(w - 1, 1)", x.thread(w - 1, 1), 2);
            check.due("state", Cloths.state(x), "3" + "2".repeat(w - 2) + "1 2 6 6 6 6");
        }
    }

    @Edge(in = "Promise 2", says = "BAD_ARG if c is not 0 to w - 1 or shaft not 0 to 3")
    static void threadRefusesAShaftBelow0(Check check) {
        refusesSecond(check, "thread", 1, BELOW_0);
    }

    @Edge(in = "Promise 2", says = "BAD_ARG if c is not 0 to w - 1 or shaft not 0 to 3")
    static void threadRefusesAShaftAbove3(Check check) {
        refusesSecond(check, "thread", 1, ABOVE_3);
    }

    @Edge(in = "Promise 2", says = "BAD_ARG if c is not 0 to w - 1 or shaft not 0 to 3")
    static void threadTakesShafts0And3(Check check) {
        ClothDraft x = loom(3, 2);
        check.due("thread(0, 0)", x.thread(0, 0), 2);
        check.due("thread(2, 3)", x.thread(2, 3), 2);
        check.due("state", Cloths.state(x), "023 22 6 6 6 6");
    }

    @Edge(in = "Promise 2", says = "BAD_ARG if c is not 0 to w - 1 or shaft not 0 to 3")
    static void threadRefusesWhenBothAreWrong(Check check) {
        refuses(check, loom(3, 2), "thread", -1, 4);
        refuses(check, loom(3, 2), "thread", 3, -1);
    }

    @Edge(in = "Promise 2", says = "Otherwise the shaft before.")
    static void threadAnswersTheShaftBefore(Check check) {
        ClothDraft x = new ClothDraft(3, 2);
        check.due("thread(2, 3) on a new object", x.thread(2, 3), 0);
        check.due("thread(2, 3) once more", x.thread(2, 3), 3);
        check.due("thread(2, 1)", x.thread(2, 1), 3);
        x.thread(2, 4);
        check.due("thread(2, 0) after a refused call", x.thread(2, 0), 1);
        x.threadAll(3, 1);
        check.due("thread(2, 2) after threadAll(3, 1)", x.thread(2, 2), 1);
    }

    @Edge(in = "Promise 2", says = "Warp c is threaded on this shaft.")
    static void threadChangesNoOtherWarp(Check check) {
        for (int c = 0; c < 8; c++) {
            ClothDraft x = loom(8, 8);
            x.thread(c, 3);
            String due = "2".repeat(c) + "3" + "2".repeat(7 - c) + " 22222222 6 6 6 6";
            check.due("state after thread(" + c + ", 3)", Cloths.state(x), due);
        }
    }

    // Promise 3

    @Edge(in = "Promise 3", says = "BAD_ARG if r is not 0 to h - 1")
    static void treadleRefusesAWeftBelow0(Check check) {
        refusesFirst(check, "treadle", BELOW_0, 3);
    }

    @Edge(in = "Promise 3", says = "BAD_ARG if r is not 0 to h - 1")
    static void treadleRefusesAWeftFromHOn(Check check) {
        for (int h = 1; h <= 8; h++) {
            for (int r : new int[] {h, h + 1, h + 8, 16, Integer.MAX_VALUE}) {
                refuses(check, loom(8, h), "treadle", r, 3);
            }
        }
    }

    @Edge(in = "Promise 3", says = "BAD_ARG if r is not 0 to h - 1")
    static void treadleTakesTheFirstAndTheLastWeft(Check check) {
        for (int h = 2; h <= 8; h++) {
            ClothDraft x = loom(1, h);
            check.due(h + " wefts: treadle(0, 3)", x.treadle(0, 3), 2);
            check.due(h + " wefts: treadle(h - 1, 1)", x.treadle(h - 1, 1), 2);
            check.due("state", Cloths.state(x), "2 3" + "2".repeat(h - 2) + "1 6 6 6 6");
        }
    }

    @Edge(in = "Promise 3", says = "BAD_ARG if r is not 0 to h - 1 or treadle not 0 to 3")
    static void treadleRefusesATreadleBelow0(Check check) {
        refusesSecond(check, "treadle", 1, BELOW_0);
    }

    @Edge(in = "Promise 3", says = "BAD_ARG if r is not 0 to h - 1 or treadle not 0 to 3")
    static void treadleRefusesATreadleAbove3(Check check) {
        refusesSecond(check, "treadle", 1, ABOVE_3);
    }

    @Edge(in = "Promise 3", says = "BAD_ARG if r is not 0 to h - 1 or treadle not 0 to 3")
    static void treadleTakesTreadles0And3(Check check) {
        ClothDraft x = loom(2, 3);
        check.due("treadle(0, 0)", x.treadle(0, 0), 2);
        check.due("treadle(2, 3)", x.treadle(2, 3), 2);
        check.due("state", Cloths.state(x), "22 023 6 6 6 6");
    }

    @Edge(in = "Promise 3", says = "BAD_ARG if r is not 0 to h - 1 or treadle not 0 to 3")
    static void treadleRefusesWhenBothAreWrong(Check check) {
        refuses(check, loom(2, 3), "treadle", -1, 4);
        refuses(check, loom(2, 3), "treadle", 3, -1);
    }

    @Edge(in = "Promise 3", says = "Otherwise the treadle before.")
    static void treadleAnswersTheTreadleBefore(Check check) {
        ClothDraft x = new ClothDraft(2, 3);
        check.due("treadle(2, 3) on a new object", x.treadle(2, 3), 0);
        check.due("treadle(2, 3) once more", x.treadle(2, 3), 3);
        check.due("treadle(2, 1)", x.treadle(2, 1), 3);
        x.treadle(2, 4);
        check.due("treadle(2, 0) after a refused call", x.treadle(2, 0), 1);
        x.treadleAll(3, 1);
        check.due("treadle(2, 2) after treadleAll(3, 1)", x.treadle(2, 2), 1);
    }

    @Edge(in = "Promise 3", says = "Weft r is treadled with this treadle.")
    static void treadleChangesNoOtherWeft(Check check) {
        for (int r = 0; r < 8; r++) {
            ClothDraft x = loom(8, 8);
            x.treadle(r, 3);
            String due = "22222222 " + "2".repeat(r) + "3" + "2".repeat(7 - r) + " 6 6 6 6";
            check.due("state after treadle(" + r + ", 3)", Cloths.state(x), due);
        }
    }

    // Promise 4

    @Edge(in = "Promise 4", says = "BAD_ARG if treadle is not 0 to 3")
    static void tieRefusesATreadleBelow0(Check check) {
        refusesFirst(check, "tie", BELOW_0, 9);
    }

    @Edge(in = "Promise 4", says = "BAD_ARG if treadle is not 0 to 3")
    static void tieRefusesATreadleAbove3(Check check) {
        refusesFirst(check, "tie", ABOVE_3, 9);
    }

    @Edge(in = "Promise 4", says = "BAD_ARG if treadle is not 0 to 3")
    static void tieTakesTreadles0And3(Check check) {
        ClothDraft x = loom(2, 2);
        check.due("tie(0, 9)", x.tie(0, 9), 6);
        check.due("tie(3, 1)", x.tie(3, 1), 6);
        check.due("state", Cloths.state(x), "22 22 9 6 6 1");
    }

    @Edge(in = "Promise 4", says = "BAD_ARG if treadle is not 0 to 3 or shafts not 0 to 15")
    static void tieRefusesASetBelow0(Check check) {
        refusesSecond(check, "tie", 1, BELOW_0);
    }

    @Edge(in = "Promise 4", says = "BAD_ARG if treadle is not 0 to 3 or shafts not 0 to 15")
    static void tieRefusesASetAbove15(Check check) {
        refusesSecond(check, "tie", 1, ABOVE_15);
    }

    @Edge(in = "Promise 4", says = "BAD_ARG if treadle is not 0 to 3 or shafts not 0 to 15")
    static void tieRefusesWhenBothAreWrong(Check check) {
        refuses(check, loom(2, 2), "tie", -1, 16);
        refuses(check, loom(2, 2), "tie", 4, -1);
    }

    @Edge(in = "Promise 4", says = "The treadle is tied to the shafts of this set (bit s for shaft s)")
    static void tieToTheEmptySetTiesToNoShaft(Check check) {
        ClothDraft x = Cloths.straight(4, 4, 15, 15, 15, 15);
        check.due("tie(3, 0)", x.tie(3, 0), 15);
        check.due("weft 3", Cloths.weft(x, 3, 4), "0000");
        check.due("state", Cloths.state(x), "0123 0123 15 15 15 0");
    }

    @Edge(in = "Promise 4", says = "The treadle is tied to the shafts of this set (bit s for shaft s)")
    static void tieToAllFourShaftsTiesToEach(Check check) {
        ClothDraft x = Cloths.straight(4, 4, 0, 0, 0, 0);
        check.due("tie(3, 15)", x.tie(3, 15), 0);
        check.due("weft 3", Cloths.weft(x, 3, 4), "1111");
        check.due("state", Cloths.state(x), "0123 0123 0 0 0 15");
    }

    @Edge(in = "Promise 4", says = "(bit s for shaft s)")
    static void tieToOneShaftTiesToThatOfTheBit(Check check) {
        ClothDraft x = Cloths.straight(4, 4, 1, 2, 4, 8);
        check.due("weft 0", Cloths.weft(x, 0, 4), "1000");
        check.due("weft 1", Cloths.weft(x, 1, 4), "0100");
        check.due("weft 2", Cloths.weft(x, 2, 4), "0010");
        check.due("weft 3", Cloths.weft(x, 3, 4), "0001");
    }

    @Edge(in = "Promise 4", says = "and to no others")
    static void tieUntiesTheShaftsThatAreNotInTheSet(Check check) {
        for (int before = 0; before < 16; before++) {
            ClothDraft x = Cloths.straight(4, 1, before, 0, 0, 0);
            x.tie(0, 5);
            check.due("tie(0, 5) after tie(0, " + before + "), weft 0", Cloths.weft(x, 0, 4), "1010");
            check.due("tie(0, 10), the set before", x.tie(0, 10), 5);
            check.due("tie(0, 10) after tie(0, 5), weft 0", Cloths.weft(x, 0, 4), "0101");
        }
    }

    @Edge(in = "Promise 4", says = "Otherwise the set before.")
    static void tieAnswersTheSetBefore(Check check) {
        ClothDraft x = new ClothDraft(2, 2);
        check.due("tie(3, 15) on a new object", x.tie(3, 15), 0);
        check.due("tie(3, 15) once more", x.tie(3, 15), 15);
        check.due("tie(3, 8)", x.tie(3, 8), 15);
        x.tie(3, 16);
        check.due("tie(3, 8) after a refused call", x.tie(3, 8), 8);
        x.invert();
        check.due("tie(3, 0) after invert()", x.tie(3, 0), 7);
        check.due("tie(3, 1)", x.tie(3, 1), 0);
    }

    @Edge(in = "Promise 4", says = "The treadle is tied to the shafts of this set")
    static void tieChangesNoOtherTreadle(Check check) {
        String[] due = {"9 6 6 6", "6 9 6 6", "6 6 9 6", "6 6 6 9"};
        for (int i = 0; i < 4; i++) {
            ClothDraft x = loom(2, 2);
            x.tie(i, 9);
            check.due("state after tie(" + i + ", 9)", Cloths.state(x), "22 22 " + due[i]);
        }
    }

    // Promise 5

    @Edge(in = "Promise 5", says = "warp c on shaft (first + step * c) modulo 4; the remainder is that from 0 to 3")
    static void threadAllGoesAroundPastShaft3(Check check) {
        for (int first = 0; first < 4; first++) {
            for (int step = 0; step < 4; step++) {
                ClothDraft x = loom(8, 2);
                x.threadAll(first, step);
                String due = ROWS[first][step] + " 22 6 6 6 6";
                check.due("state after threadAll(" + first + ", " + step + ")", Cloths.state(x), due);
            }
        }
    }

    @Edge(in = "Promise 5", says = "The threading becomes: warp c on shaft (first + step * c) modulo 4")
    static void threadAllThreadsFromOneWarpTo8(Check check) {
        for (int w = 1; w <= 8; w++) {
            ClothDraft x = loom(w, 2);
            x.threadAll(3, 3);
            check.due(w + " warps: state after threadAll(3, 3)", Cloths.state(x), "32103210".substring(0, w) + " 22 6 6 6 6");
        }
    }

    @Edge(in = "Promise 5", says = "BAD_ARG if first or step is not 0 to 3")
    static void threadAllRefusesAFirstBelow0(Check check) {
        refusesFirst(check, "threadAll", BELOW_0, 1);
    }

    @Edge(in = "Promise 5", says = "BAD_ARG if first or step is not 0 to 3")
    static void threadAllRefusesAFirstAbove3(Check check) {
        refusesFirst(check, "threadAll", ABOVE_3, 1);
    }

    @Edge(in = "Promise 5", says = "BAD_ARG if first or step is not 0 to 3")
    static void threadAllRefusesAStepBelow0(Check check) {
        refusesSecond(check, "threadAll", 1, BELOW_0);
    }

    @Edge(in = "Promise 5", says = "BAD_ARG if first or step is not 0 to 3")
    static void threadAllRefusesAStepAbove3(Check check) {
        refusesSecond(check, "threadAll", 1, ABOVE_3);
    }

    @Edge(in = "Promise 5", says = "BAD_ARG if first or step is not 0 to 3")
    static void threadAllRefusesWhenBothAreWrong(Check check) {
        refuses(check, loom(8, 2), "threadAll", -1, 4);
        refuses(check, loom(8, 2), "threadAll", 4, -1);
    }

    @Edge(in = "Promise 5", says = "Otherwise 0.")
    static void threadAllAnswers0WhateverWasBefore(Check check) {
        ClothDraft x = loom(8, 2);
        for (int first = 0; first < 4; first++) {
            for (int step = 0; step < 4; step++) {
                check.due("threadAll(" + first + ", " + step + ")", x.threadAll(first, step), 0);
            }
        }
    }

    // Promise 6

    @Edge(in = "Promise 6", says = "weft r with treadle (first + step * r) modulo 4")
    static void treadleAllGoesAroundPastTreadle3(Check check) {
        for (int first = 0; first < 4; first++) {
            for (int step = 0; step < 4; step++) {
                ClothDraft x = loom(2, 8);
                x.treadleAll(first, step);
                String due = "22 " + ROWS[first][step] + " 6 6 6 6";
                check.due("state after treadleAll(" + first + ", " + step + ")", Cloths.state(x), due);
            }
        }
    }

    @Edge(in = "Promise 6", says = "The treadling becomes: weft r with treadle (first + step * r) modulo 4")
    static void treadleAllTreadlesFromOneWeftTo8(Check check) {
        for (int h = 1; h <= 8; h++) {
            ClothDraft x = loom(2, h);
            x.treadleAll(3, 3);
            check.due(h + " wefts: state after treadleAll(3, 3)", Cloths.state(x), "22 " + "32103210".substring(0, h) + " 6 6 6 6");
        }
    }

    @Edge(in = "Promise 6", says = "BAD_ARG if first or step is not 0 to 3")
    static void treadleAllRefusesAFirstBelow0(Check check) {
        refusesFirst(check, "treadleAll", BELOW_0, 1);
    }

    @Edge(in = "Promise 6", says = "BAD_ARG if first or step is not 0 to 3")
    static void treadleAllRefusesAFirstAbove3(Check check) {
        refusesFirst(check, "treadleAll", ABOVE_3, 1);
    }

    @Edge(in = "Promise 6", says = "BAD_ARG if first or step is not 0 to 3")
    static void treadleAllRefusesAStepBelow0(Check check) {
        refusesSecond(check, "treadleAll", 1, BELOW_0);
    }

    @Edge(in = "Promise 6", says = "BAD_ARG if first or step is not 0 to 3")
    static void treadleAllRefusesAStepAbove3(Check check) {
        refusesSecond(check, "treadleAll", 1, ABOVE_3);
    }

    @Edge(in = "Promise 6", says = "BAD_ARG if first or step is not 0 to 3")
    static void treadleAllRefusesWhenBothAreWrong(Check check) {
        refuses(check, loom(2, 8), "treadleAll", -1, 4);
        refuses(check, loom(2, 8), "treadleAll", 4, -1);
    }

    @Edge(in = "Promise 6", says = "Otherwise 0.")
    static void treadleAllAnswers0WhateverWasBefore(Check check) {
        ClothDraft x = loom(2, 8);
        for (int first = 0; first < 4; first++) {
            for (int step = 0; step < 4; step++) {
                check.due("treadleAll(" + first + ", " + step + ")", x.treadleAll(first, step), 0);
            }
        }
    }

    // Promise 7

    @Edge(in = "Promise 7", says = "Each treadle is tied to just those shafts that it was not tied to.")
    static void invertOfNoTieTiesAll(Check check) {
        ClothDraft x = new ClothDraft(3, 3);
        check.due("invert()", x.invert(), 16);
        check.due("state", Cloths.state(x), "000 000 15 15 15 15");
    }

    @Edge(in = "Promise 7", says = "Each treadle is tied to just those shafts that it was not tied to.")
    static void invertOfAllTiesLeavesNone(Check check) {
        ClothDraft x = Cloths.straight(3, 3, 15, 15, 15, 15);
        check.due("invert()", x.invert(), 0);
        check.due("state", Cloths.state(x), "012 012 0 0 0 0");
    }

    @Edge(in = "Promise 7", says = "Each treadle is tied to just those shafts that it was not tied to.")
    static void invertOfOneTieLeavesAllOthers(Check check) {
        for (int treadle = 0; treadle < 4; treadle++) {
            for (int shaft = 0; shaft < 4; shaft++) {
                ClothDraft x = new ClothDraft(1, 1);
                x.tie(treadle, 1 << shaft);
                check.due("invert()", x.invert(), 15);
                check.due("tie(" + treadle + ", 0)", x.tie(treadle, 0), 15 - (1 << shaft));
            }
        }
    }

    @Edge(in = "Promise 7", says = "Answers how many ties there are then.")
    static void invertCountsTiesOfTreadlesAndShaftsThatAreNotUsed(Check check) {
        ClothDraft x = new ClothDraft(1, 1);
        x.tie(0, 15);
        x.tie(3, 14);
        check.due("invert()", x.invert(), 4 + 4 + 1);
        check.due("invert()", x.invert(), 4 + 3);
    }

    @Edge(in = "Promise 7", says = "Each treadle is tied to just those shafts that it was not tied to.")
    static void invertTwiceGivesTheTiesBack(Check check) {
        for (int shafts = 0; shafts < 16; shafts++) {
            ClothDraft x = Cloths.straight(3, 5, shafts, 15 - shafts, 3, 0);
            x.invert();
            x.invert();
            check.due("state", Cloths.state(x), "012 01230 " + shafts + " " + (15 - shafts) + " 3 0");
        }
    }
}
