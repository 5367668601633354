import java.util.List;

/** What holds over a whole run of calls: every answer up to the last, and that nothing changes but what is said to. */
public final class RunEdgeTest {
    private static final int CALLS = 512;

    // A fixed row of numbers, the same in each run.
    private static long seed = 20261116;

    public static void main(String[] args) {
        Edges.run(RunEdgeTest.class);
    }

    private static int next(int bound) {
        seed = seed * 6364136223846793005L + 1442695040888963407L;
        return (int) ((seed >>> 33) % bound);
    }

    /** Mostly small numbers, which are in some range; now and then one that is in none. */
    private static int nextArgument() {
        return switch (next(8)) {
            case 0 -> -1 - next(4);
            case 1 -> next(70);
            case 2, 3 -> 8 + next(9);
            default -> next(6);
        };
    }

    private static void nextCall(Check check, String at, ClothDraft x, Due due) {
        Call call = Call.ALL.get(next(Call.ALL.size()));
        int a = call.name().equals("liftable") ? next(1 << 16) & next(1 << 16) : nextArgument();
        int b = nextArgument();
        ask(check, at, x, due, call, a, b);
    }

    private static void ask(Check check, String at, ClothDraft x, Due due, Call call, int a, int b) {
        check.due(at + call.with(a, b), call.on(x, a, b), due.answer(call, a, b));
    }

    @Edge(in = "What it is", says = "An object is used for at most 512 calls after it has been made")
    static void everyAnswerOfARunOf512CallsIsDue(Check check) {
        for (int run = 0; run < 100; run++) {
            int w = next(10);
            int h = next(10);
            ClothDraft x = new ClothDraft(w, h);
            Due due = new Due(w, h);
            for (int i = 1; i <= CALLS; i++) {
                nextCall(check, w + " x " + h + ", call " + i + ", ", x, due);
            }
        }
    }

    @Edge(in = "What it is", says = "An object is used for at most 512 calls after it has been made")
    static void aCallIsAnsweredAlikeAtEveryPlaceOfARun(Check check) {
        for (Call call : Call.ALL) {
            for (int place = 1; place <= CALLS; place++) {
                ClothDraft x = new ClothDraft(2, 2);
                Due due = new Due(2, 2);
                for (int i = 1; i < place; i++) {
                    x.invert();
                }
                if (place % 2 == 0) {
                    due.answer(Call.named("invert"), 0, 0);
                }
                ask(check, "call " + place + ", ", x, due, call, 1, 1);
                readBack(check, "after call " + place + ", ", x, due, CALLS - place);
            }
        }
    }

    /** The count of all ties comes first: it shows a change even where but one call is left. */
    private static void readBack(Check check, String at, ClothDraft x, Due due, int callsLeft) {
        int left = callsLeft;
        for (String name : List.of("invert", "tie", "thread", "treadle")) {
            for (int i = 0; i < (name.equals("invert") ? 1 : 8) && left > 0; i++) {
                ask(check, at, x, due, Call.named(name), i, 3);
                left--;
            }
        }
    }

    @Edge(in = "Not promised", says = "Nothing is promised beyond the answers and state changes described above")
    static void aCallDoesJustWhatIsSaidWhateverTheSettings(Check check) {
        for (int i = 0; i < 8; i++) {
            for (int value = 0; value < 16; value++) {
                afterOneSetting(check, 3, 3, "tie", i, value);
                afterOneSetting(check, 8, 2, "thread", i, value);
                afterOneSetting(check, 2, 8, "treadle", i, value);
            }
        }
    }

    /** Settings that are refused are left out: the cloth would be the same each time. */
    private static void afterOneSetting(Check check, int w, int h, String name, int of, int value) {
        if (new Due(w, h).answer(Call.named(name), of, value) == ClothDraft.BAD_ARG) {
            return;
        }
        for (Call call : Call.ALL) {
            ClothDraft x = new ClothDraft(w, h);
            Due due = new Due(w, h);
            String at = w + " x " + h + ", ";
            ask(check, at, x, due, Call.named("threadAll"), 0, 1);
            ask(check, at, x, due, Call.named("treadleAll"), 1, 1);
            ask(check, at, x, due, Call.named("tie"), 1, 5);
            ask(check, at, x, due, Call.named(name), of, value);
            at += Call.named(name).with(of, value) + ", ";
            ask(check, at, x, due, call, 1, 1);
            readBack(check, at + call.with(1, 1) + ", ", x, due, CALLS - 5);
        }
    }

    @Edge(in = "Not promised", says = "Nothing is promised beyond the answers and state changes described above")
    static void callsOnOneObjectDoNotChangeAnother(Check check) {
        ClothDraft[] x = {new ClothDraft(2, 5), new ClothDraft(4, 3), new ClothDraft(4, 3)};
        Due[] due = {new Due(2, 5), new Due(4, 3), new Due(4, 3)};
        for (int i = 1; i <= CALLS; i++) {
            int which = next(x.length);
            nextCall(check, "object " + which + ", call " + i + ", ", x[which], due[which]);
        }
    }

    private static List<ClothDraft> someCloths() {
        return List.of(new ClothDraft(1, 1), Cloths.uneven(), Cloths.plainWeave(8, 8), Cloths.stair(5, 8));
    }

    private static boolean isQuestion(Call call) {
        return !List.of("thread", "treadle", "tie", "threadAll", "treadleAll", "invert").contains(call.name());
    }

    @Edge(in = "Not promised", says = "Nothing is promised beyond the answers and state changes described above")
    static void aQuestionChangesNothing(Check check) {
        for (Call call : Call.ALL.stream().filter(RunEdgeTest::isQuestion).toList()) {
            for (int i = 0; i < someCloths().size(); i++) {
                ClothDraft asked = someCloths().get(i);
                ClothDraft notAsked = someCloths().get(i);
                for (int a = 0; a < 16; a += 5) {
                    call.on(asked, a, 0);
                    call.on(asked, 0, a);
                }
                check.due("answers after " + call.name(), Cloths.answers(asked), Cloths.answers(notAsked));
                check.due("state after " + call.name(), Cloths.state(asked), Cloths.state(notAsked));
            }
        }
    }

    @Edge(in = "Not promised", says = "Nothing is promised beyond the answers and state changes described above")
    static void aQuestionAskedAgainIsAnsweredAlike(Check check) {
        for (Call call : Call.ALL.stream().filter(RunEdgeTest::isQuestion).toList()) {
            for (ClothDraft x : someCloths()) {
                for (int a : new int[] {-1, 0, 7, 8, 15, 16}) {
                    int first = call.on(x, a, 0);
                    check.due(call.with(a, 0) + " asked again", call.on(x, a, 0), first);
                }
            }
        }
    }
}
