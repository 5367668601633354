import java.util.Arrays;
import java.util.stream.IntStream;

/** At every size of cloth: what is answered, and which of all numbers near the ranges and of many far away are refused. */
public final class RangeEdgeTest {
    private static final int[] NEAR = IntStream.rangeClosed(-20, 20).toArray();
    private static final int[] FAR = far();
    private static final int[] IN_SOME_RANGE = {0, 3, 7, 8, 15};

    public static void main(String[] args) {
        Edges.run(RangeEdgeTest.class);
    }

    /** The powers of two from 32 on and their neighbours, with either sign: what a mask or a cut would let through. */
    private static int[] far() {
        return IntStream.rangeClosed(5, 31)
                .flatMap(power -> IntStream.rangeClosed(-1, 18).map(more -> (1 << power) + more))
                .flatMap(number -> IntStream.of(number, -number))
                .distinct().toArray();
    }

    private static int[] all() {
        return IntStream.concat(Arrays.stream(NEAR), Arrays.stream(FAR)).toArray();
    }

    /** From above: wefts, warps, threads that hold each other, wefts, warps; as far as there are so many. */
    private static ClothDraft cloth(int w, int h) {
        return Cloths.straight(w, h, 9, 10, 0, 11);
    }

    private static Due due(int w, int h) {
        Due made = new Due(w, h);
        made.answer(Call.named("threadAll"), 0, 1);
        made.answer(Call.named("treadleAll"), 0, 1);
        int[] ties = {9, 10, 0, 11};
        for (int i = 0; i < 4; i++) {
            made.answer(Call.named("tie"), i, ties[i]);
        }
        return made;
    }

    private interface AtSize {
        void look(int w, int h);
    }

    private static void atEverySize(AtSize size) {
        for (int w = 1; w <= 8; w++) {
            for (int h = 1; h <= 8; h++) {
                size.look(w, h);
            }
        }
    }

    private static void ask(Check check, ClothDraft x, Due due, Call call, int a, int b) {
        check.due(call.with(a, b), call.on(x, a, b), due.answer(call, a, b));
    }

    private static void settings(Check check, String name) {
        Call call = Call.named(name);
        atEverySize((w, h) -> {
            for (int a : NEAR) {
                ClothDraft x = cloth(w, h);
                Due due = due(w, h);
                for (int b : NEAR) {
                    ask(check, x, due, call, a, b);
                }
                readBack(check, x, due);
            }
        });
        for (int far : FAR) {
            ClothDraft x = cloth(8, 8);
            Due due = due(8, 8);
            for (int in : IN_SOME_RANGE) {
                ask(check, x, due, call, far, in);
                ask(check, x, due, call, in, far);
            }
            readBack(check, x, due);
        }
    }

    private static void readBack(Check check, ClothDraft x, Due due) {
        for (String name : new String[] {"thread", "treadle", "tie"}) {
            for (int i = 0; i < 8; i++) {
                ask(check, x, due, Call.named(name), i, 0);
            }
        }
    }

    private static void questions(Check check, String name) {
        Call call = Call.named(name);
        atEverySize((w, h) -> {
            Due due = due(w, h);
            String before = Cloths.state(cloth(w, h));
            for (int a : NEAR) {
                ClothDraft x = cloth(w, h);
                for (int b : NEAR) {
                    ask(check, x, due, call, a, b);
                }
                check.due("state after " + name, Cloths.state(x), before);
            }
        });
        Due due = due(8, 8);
        String before = Cloths.state(cloth(8, 8));
        for (int far : FAR) {
            ClothDraft x = cloth(8, 8);
            for (int in : IN_SOME_RANGE) {
                ask(check, x, due, call, far, in);
                ask(check, x, due, call, in, far);
            }
            check.due("state after " + name, Cloths.state(x), before);
        }
    }

    private static void withoutArguments(Check check, String name) {
        Call call = Call.named(name);
        atEverySize((w, h) -> {
            for (int turns = 0; turns < 2; turns++) {
                ClothDraft x = cloth(w, h);
                Due due = due(w, h);
                for (int i = 0; i < turns; i++) {
                    ask(check, x, due, Call.named("invert"), 0, 0);
                }
                ask(check, x, due, call, 0, 0);
                readBack(check, x, due);
            }
        });
    }

    @Edge(in = "Promise 1", says = "w is warps, h is wefts, each clamped into 1 to 8.")
    static void newClampsEveryNumberOfWarps(Check check) {
        for (int warps : all()) {
            int w = Math.min(Math.max(warps, 1), 8);
            check.due("new ClothDraft(" + warps + ", 2)", Cloths.state(new ClothDraft(warps, 2)), "0".repeat(w) + " 00 0 0 0 0");
        }
    }

    @Edge(in = "Promise 1", says = "w is warps, h is wefts, each clamped into 1 to 8.")
    static void newClampsEveryNumberOfWefts(Check check) {
        for (int wefts : all()) {
            int h = Math.min(Math.max(wefts, 1), 8);
            check.due("new ClothDraft(2, " + wefts + ")", Cloths.state(new ClothDraft(2, wefts)), "00 " + "0".repeat(h) + " 0 0 0 0");
        }
    }

    @Edge(in = "Promise 2", says = "BAD_ARG if c is not 0 to w - 1 or shaft not 0 to 3.")
    static void threadRefusesJustWhatIsOutOfRange(Check check) {
        settings(check, "thread");
    }

    @Edge(in = "Promise 3", says = "BAD_ARG if r is not 0 to h - 1 or treadle not 0 to 3.")
    static void treadleRefusesJustWhatIsOutOfRange(Check check) {
        settings(check, "treadle");
    }

    @Edge(in = "Promise 4", says = "BAD_ARG if treadle is not 0 to 3 or shafts not 0 to 15.")
    static void tieRefusesJustWhatIsOutOfRange(Check check) {
        settings(check, "tie");
    }

    @Edge(in = "Promise 5", says = "BAD_ARG if first or step is not 0 to 3.")
    static void threadAllRefusesJustWhatIsOutOfRange(Check check) {
        settings(check, "threadAll");
    }

    @Edge(in = "Promise 6", says = "BAD_ARG if first or step is not 0 to 3.")
    static void treadleAllRefusesJustWhatIsOutOfRange(Check check) {
        settings(check, "treadleAll");
    }

    @Edge(in = "Promise 7", says = "Answers how many ties there are then.")
    static void invertAnswersAtEverySize(Check check) {
        withoutArguments(check, "invert");
    }

    @Edge(in = "Promise 8", says = "BAD_ARG if there is no warp c or no weft r.")
    static void aboveRefusesJustWhatIsOutOfRange(Check check) {
        questions(check, "above");
    }

    @Edge(in = "Promise 9", says = "BAD_ARG if there is no such thread.")
    static void longestRefusesJustWhatIsOutOfRange(Check check) {
        questions(check, "longest");
    }

    @Edge(in = "Promise 10", says = "BAD_ARG if there is no such thread.")
    static void overRefusesJustWhatIsOutOfRange(Check check) {
        questions(check, "over");
    }

    @Edge(in = "Promise 11", says = "The least number of shafts with which")
    static void shaftsAnswersAtEverySize(Check check) {
        withoutArguments(check, "shafts");
    }

    @Edge(in = "Promise 12", says = "The least number of treadles with which")
    static void treadlesAnswersAtEverySize(Check check) {
        withoutArguments(check, "treadles");
    }

    @Edge(in = "Promise 13", says = "1 if the set of threads can be lifted off, else 0")
    static void liftableRefusesNoNumber(Check check) {
        questions(check, "liftable");
    }

    @Edge(in = "Promise 14", says = "1 if the cloth hangs together, else 0.")
    static void hangsAnswersAtEverySize(Check check) {
        withoutArguments(check, "hangs");
    }

    @Edge(in = "Promise 15", says = "The greatest k for which there is a division in k layers.")
    static void layersAnswersAtEverySize(Check check) {
        withoutArguments(check, "layers");
    }

    @Edge(in = "Promise 16", says = "BAD_ARG if one of them is not there.")
    static void togetherRefusesJustWhatIsOutOfRange(Check check) {
        questions(check, "together");
    }

    @Edge(in = "Promise 17", says = "How many sets of threads, except the empty one and that of all threads, can be lifted off.")
    static void liftsAnswersAtEverySize(Check check) {
        withoutArguments(check, "lifts");
    }

    @Edge(in = "Promise 18", says = "How many divisions there are in as many layers as layers() says.")
    static void divisionsAnswersAtEverySize(Check check) {
        withoutArguments(check, "divisions");
    }
}
