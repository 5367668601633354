/**
 * What is due for any call with any arguments: which are refused is told here,
 * as the document tells their ranges; the answers are those of the Reference.
 */
final class Due {
    private final Reference cloth;

    // The sets that can be lifted off: slow to find, so they are kept until the cloth changes.
    private int[] sets = {};

    Due(int warps, int wefts) {
        cloth = new Reference(Math.min(Math.max(warps, 1), 8), Math.min(Math.max(wefts, 1), 8));
    }

    int answer(Call call, int a, int b) {
        return isRefused(call, a, b) ? -1 : answerInRange(call, a, b);
    }

    private boolean isRefused(Call call, int a, int b) {
        return switch (call.name()) {
            case "thread" -> !(isFrom0To(cloth.w - 1, a) && isFrom0To(3, b));
            case "treadle" -> !(isFrom0To(cloth.h - 1, a) && isFrom0To(3, b));
            case "tie" -> !(isFrom0To(3, a) && isFrom0To(15, b));
            case "threadAll", "treadleAll" -> !(isFrom0To(3, a) && isFrom0To(3, b));
            case "above" -> !(isFrom0To(cloth.w - 1, a) && isFrom0To(cloth.h - 1, b));
            case "longest", "over" -> !cloth.isThread(a);
            case "together" -> !(cloth.isThread(a) && cloth.isThread(b));
            default -> false;
        };
    }

    private static boolean isFrom0To(int last, int number) {
        return number >= 0 && number <= last;
    }

    private int answerInRange(Call call, int a, int b) {
        return switch (call.name()) {
            case "thread" -> changed(cloth.thread(a, b));
            case "treadle" -> changed(cloth.treadle(a, b));
            case "tie" -> changed(cloth.tie(a, b));
            case "threadAll" -> changed(cloth.threadAll(a, b));
            case "treadleAll" -> changed(cloth.treadleAll(a, b));
            case "invert" -> changed(cloth.invert());
            case "above" -> cloth.isAbove(a, 8 + b) ? 1 : 0;
            case "longest" -> cloth.longest(a);
            case "over" -> cloth.over(a);
            case "shafts" -> cloth.shafts();
            case "treadles" -> cloth.treadles();
            case "liftable" -> cloth.liftable(a) ? 1 : 0;
            case "together" -> Reference.togetherBySets(sets(), a, b) ? 1 : 0;
            case "hangs" -> sets().length == 2 ? 1 : 0;
            case "lifts" -> sets().length - 2;
            case "layers" -> layers(Reference.divisionsByRows(sets()));
            case "divisions" -> divisions(Reference.divisionsByRows(sets()));
            default -> throw new IllegalArgumentException(call.name());
        };
    }

    private int changed(int answer) {
        sets = new int[0];
        return answer;
    }

    private int[] sets() {
        if (sets.length == 0) {
            sets = cloth.liftableSets();
        }
        return sets;
    }

    static int layers(long[] divisions) {
        int layers = 16;
        while (divisions[layers] == 0) {
            layers--;
        }
        return layers;
    }

    private static int divisions(long[] divisions) {
        return Math.toIntExact(divisions[layers(divisions)]);
    }
}
