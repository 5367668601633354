/** Each promise by hand: ordinary inputs, the edges that the document names, wrong inputs. */
public final class PromisesTest {
    private static final Check CHECK = new Check();
    private static final int BAD = ClothDraft.BAD_ARG;
    private static final int LOW = Integer.MIN_VALUE;
    private static final int HIGH = Integer.MAX_VALUE;
    private static String at = "";

    public static void main(String[] args) {
        promise1NewObject();
        promise2Thread();
        promise3Treadle();
        promise4Tie();
        promise5ThreadAll();
        promise6TreadleAll();
        promise7Invert();
        promise8Above();
        promise9Longest();
        promise10Over();
        promise11Shafts();
        promise12Treadles();
        promise13Liftable();
        promise14Hangs();
        promise15Layers();
        promise16Together();
        promise17Lifts();
        promise18Divisions();
        questionsChangeNothing();
        objectsAreApart();
        CHECK.finish();
    }

    private static void promise1NewObject() {
        int[][] sizes = {{1, 1, 1, 1}, {8, 8, 8, 8}, {0, 9, 1, 8}, {9, 0, 8, 1}, {-1, 2, 1, 2},
            {3, -1, 3, 1}, {LOW, HIGH, 1, 8}, {HIGH, LOW, 8, 1}, {7, 2, 7, 2}, {2, 7, 2, 7}};
        for (int[] size : sizes) {
            at = "promise 1, new ClothDraft(" + size[0] + ", " + size[1] + "): ";
            ClothDraft x = new ClothDraft(size[0], size[1]);
            int w = size[2];
            int h = size[3];
            due("over(w - 1)", x.over(w - 1), 0);
            due("over(w)", x.over(w), w == 8 ? w : BAD);
            due("over(8 + h - 1)", x.over(8 + h - 1), w);
            due("over(8 + h)", x.over(8 + h), BAD);
            due("above(w - 1, h - 1)", x.above(w - 1, h - 1), 0);
            due("above(w, 0)", x.above(w, 0), BAD);
            due("above(0, h)", x.above(0, h), BAD);
            due("state", Cloths.state(x), "0".repeat(w) + " " + "0".repeat(h) + " 0 0 0 0");
        }
    }

    private static void promise2Thread() {
        at = "promise 2, ";
        ClothDraft x = new ClothDraft(3, 2);
        due("thread(0, 3)", x.thread(0, 3), 0);
        due("thread(0, 1)", x.thread(0, 1), 3);
        due("thread(0, 1)", x.thread(0, 1), 1);
        due("thread(2, 2)", x.thread(2, 2), 0);
        due("state", Cloths.state(x), "102 00 0 0 0 0");
        due("thread(2, 0)", x.thread(2, 0), 2);
        for (int c : new int[] {-1, 3, 8, LOW, HIGH}) {
            due("thread(" + c + ", 3)", x.thread(c, 3), BAD);
        }
        for (int shaft : new int[] {-1, 4, 32, LOW, HIGH}) {
            due("thread(1, " + shaft + ")", x.thread(1, shaft), BAD);
        }
        due("thread(-1, 4)", x.thread(-1, 4), BAD);
        due("state after refusals", Cloths.state(x), "100 00 0 0 0 0");
        ClothDraft full = new ClothDraft(8, 1);
        due("thread(7, 3)", full.thread(7, 3), 0);
        due("thread(8, 3)", full.thread(8, 3), BAD);
        due("state", Cloths.state(full), "00000003 0 0 0 0 0");
    }

    private static void promise3Treadle() {
        at = "promise 3, ";
        ClothDraft x = new ClothDraft(2, 3);
        due("treadle(0, 3)", x.treadle(0, 3), 0);
        due("treadle(0, 1)", x.treadle(0, 1), 3);
        due("treadle(0, 1)", x.treadle(0, 1), 1);
        due("treadle(2, 2)", x.treadle(2, 2), 0);
        due("state", Cloths.state(x), "00 102 0 0 0 0");
        for (int r : new int[] {-1, 3, 8, LOW, HIGH}) {
            due("treadle(" + r + ", 3)", x.treadle(r, 3), BAD);
        }
        for (int treadle : new int[] {-1, 4, 32, LOW, HIGH}) {
            due("treadle(1, " + treadle + ")", x.treadle(1, treadle), BAD);
        }
        due("treadle(-1, 4)", x.treadle(-1, 4), BAD);
        due("state after refusals", Cloths.state(x), "00 102 0 0 0 0");
        ClothDraft full = new ClothDraft(1, 8);
        due("treadle(7, 3)", full.treadle(7, 3), 0);
        due("treadle(8, 3)", full.treadle(8, 3), BAD);
        due("state", Cloths.state(full), "0 00000003 0 0 0 0");
    }

    private static void promise4Tie() {
        at = "promise 4, ";
        ClothDraft x = new ClothDraft(4, 4);
        x.threadAll(0, 1);
        x.treadleAll(0, 1);
        due("tie(0, 15)", x.tie(0, 15), 0);
        due("tie(0, 6)", x.tie(0, 6), 15);
        due("the ties of treadle 0", Cloths.weft(x, 0, 4), "0110");
        due("tie(0, 1)", x.tie(0, 1), 6);
        due("the ties of treadle 0", Cloths.weft(x, 0, 4), "1000");
        due("tie(3, 8)", x.tie(3, 8), 0);
        due("the ties of treadle 3", Cloths.weft(x, 3, 4), "0001");
        due("tie(3, 0)", x.tie(3, 0), 8);
        due("tie(3, 5)", x.tie(3, 5), 0);
        for (int treadle : new int[] {-1, 4, 32, LOW, HIGH}) {
            due("tie(" + treadle + ", 7)", x.tie(treadle, 7), BAD);
        }
        for (int shafts : new int[] {-1, 16, 17, LOW, HIGH}) {
            due("tie(0, " + shafts + ")", x.tie(0, shafts), BAD);
        }
        due("state after refusals", Cloths.state(x), "0123 0123 1 0 0 5");
    }

    private static void promise5ThreadAll() {
        at = "promise 5, ";
        ClothDraft x = new ClothDraft(8, 2);
        due("threadAll(0, 1)", x.threadAll(0, 1), 0);
        due("state", Cloths.state(x), "01230123 00 0 0 0 0");
        due("threadAll(3, 3)", x.threadAll(3, 3), 0);
        due("state", Cloths.state(x), "32103210 00 0 0 0 0");
        due("threadAll(1, 2)", x.threadAll(1, 2), 0);
        due("state", Cloths.state(x), "13131313 00 0 0 0 0");
        due("threadAll(2, 0)", x.threadAll(2, 0), 0);
        due("state", Cloths.state(x), "22222222 00 0 0 0 0");
        for (int wrong : new int[] {-1, 4, LOW, HIGH}) {
            due("threadAll(" + wrong + ", 1)", x.threadAll(wrong, 1), BAD);
            due("threadAll(1, " + wrong + ")", x.threadAll(1, wrong), BAD);
        }
        due("state after refusals", Cloths.state(x), "22222222 00 0 0 0 0");
        ClothDraft narrow = new ClothDraft(1, 8);
        due("threadAll(3, 1)", narrow.threadAll(3, 1), 0);
        due("state", Cloths.state(narrow), "3 00000000 0 0 0 0");
    }

    private static void promise6TreadleAll() {
        at = "promise 6, ";
        ClothDraft x = new ClothDraft(2, 8);
        due("treadleAll(0, 1)", x.treadleAll(0, 1), 0);
        due("state", Cloths.state(x), "00 01230123 0 0 0 0");
        due("treadleAll(3, 3)", x.treadleAll(3, 3), 0);
        due("state", Cloths.state(x), "00 32103210 0 0 0 0");
        due("treadleAll(1, 2)", x.treadleAll(1, 2), 0);
        due("state", Cloths.state(x), "00 13131313 0 0 0 0");
        due("treadleAll(2, 0)", x.treadleAll(2, 0), 0);
        due("state", Cloths.state(x), "00 22222222 0 0 0 0");
        for (int wrong : new int[] {-1, 4, LOW, HIGH}) {
            due("treadleAll(" + wrong + ", 1)", x.treadleAll(wrong, 1), BAD);
            due("treadleAll(1, " + wrong + ")", x.treadleAll(1, wrong), BAD);
        }
        due("state after refusals", Cloths.state(x), "00 22222222 0 0 0 0");
        ClothDraft low = new ClothDraft(8, 1);
        due("treadleAll(3, 1)", low.treadleAll(3, 1), 0);
        due("state", Cloths.state(low), "00000000 3 0 0 0 0");
    }

    private static void promise7Invert() {
        at = "promise 7, ";
        ClothDraft x = new ClothDraft(2, 3);
        due("invert()", x.invert(), 16);
        due("state", Cloths.state(x), "00 000 15 15 15 15");
        due("invert()", x.invert(), 0);
        due("state", Cloths.state(x), "00 000 0 0 0 0");
        x.tie(0, 1);
        x.tie(1, 6);
        x.tie(3, 15);
        x.thread(1, 2);
        x.treadle(2, 3);
        due("invert()", x.invert(), 9);
        due("state", Cloths.state(x), "02 003 14 9 15 0");
        due("invert()", x.invert(), 7);
        due("state", Cloths.state(x), "02 003 1 6 0 15");
    }

    private static void promise8Above() {
        at = "promise 8, ";
        ClothDraft x = new ClothDraft(3, 2);
        x.thread(1, 3);
        x.thread(2, 1);
        x.treadle(1, 2);
        x.tie(0, 8);
        x.tie(2, 3);
        due("weft 0", Cloths.weft(x, 0, 3), "010");
        due("weft 1", Cloths.weft(x, 1, 3), "101");
        for (int wrong : new int[] {-1, 3, 8, LOW, HIGH}) {
            due("above(" + wrong + ", 0)", x.above(wrong, 0), BAD);
            due("above(0, " + wrong + ")", x.above(0, wrong), BAD);
        }
        due("above(0, 2)", x.above(0, 2), BAD);
        due("above(2, 1)", x.above(2, 1), 1);
    }

    private static void promise9Longest() {
        at = "promise 9, ";
        ClothDraft x = Cloths.cloth("1101", "1000", "1000", "0001", "1000");
        due("longest(0): over over over, under, over", x.longest(0), 3);
        due("longest(1): over, under 4 times", x.longest(1), 4);
        due("longest(2): under throughout", x.longest(2), 5);
        due("longest(3)", x.longest(3), 2);
        due("longest(8)", x.longest(8), 2);
        due("longest(9)", x.longest(9), 3);
        due("longest(12)", x.longest(12), 3);
        for (int wrong : new int[] {-1, 4, 7, 13, 16, LOW, HIGH}) {
            due("longest(" + wrong + ")", x.longest(wrong), BAD);
        }
        ClothDraft one = new ClothDraft(1, 1);
        due("longest(0) of one crossing", one.longest(0), 1);
        due("longest(8) of one crossing", one.longest(8), 1);
        ClothDraft full = new ClothDraft(8, 8);
        due("longest(7)", full.longest(7), 8);
        due("longest(15)", full.longest(15), 8);
        full.invert();
        due("longest(7) above all", full.longest(7), 8);
        due("longest(15) under all", full.longest(15), 8);
    }

    private static void promise10Over() {
        at = "promise 10, ";
        ClothDraft x = Cloths.cloth("1101", "1000", "1000", "0001", "1000");
        due("over(0)", x.over(0), 4);
        due("over(1)", x.over(1), 1);
        due("over(2)", x.over(2), 0);
        due("over(3)", x.over(3), 2);
        due("over(8)", x.over(8), 1);
        due("over(11)", x.over(11), 3);
        for (int wrong : new int[] {-1, 4, 7, 13, 16, LOW, HIGH}) {
            due("over(" + wrong + ")", x.over(wrong), BAD);
        }
        ClothDraft full = new ClothDraft(8, 8);
        due("over(15) of a new cloth", full.over(15), 8);
        due("over(7) of a new cloth", full.over(7), 0);
        full.invert();
        due("over(15) inverted", full.over(15), 0);
        due("over(7) inverted", full.over(7), 8);
    }

    private static void promise11Shafts() {
        at = "promise 11, ";
        due("shafts() of a new cloth", new ClothDraft(8, 8).shafts(), 1);
        due("shafts(): all alike", Cloths.cloth("1111", "0000").shafts(), 1);
        due("shafts(): plain weave", Cloths.cloth("1010", "0101").shafts(), 2);
        due("shafts(): four warps of their own", Cloths.cloth("1100", "1010").shafts(), 4);
        due("shafts(): first and last alike", Cloths.cloth("1101", "0100", "0010").shafts(), 3);
        ClothDraft unused = new ClothDraft(8, 8);
        unused.threadAll(0, 1);
        unused.tie(1, 1);
        due("shafts(): a tie of a treadle without a weft", unused.shafts(), 1);
        unused.treadle(7, 1);
        due("shafts(): with a weft", unused.shafts(), 2);
    }

    private static void promise12Treadles() {
        at = "promise 12, ";
        due("treadles() of a new cloth", new ClothDraft(8, 8).treadles(), 1);
        due("treadles(): all alike", Cloths.cloth("10", "10", "10").treadles(), 1);
        due("treadles(): plain weave", Cloths.cloth("1010", "0101", "1010").treadles(), 2);
        due("treadles(): four wefts of their own", Cloths.cloth("11", "10", "01", "00").treadles(), 4);
        due("treadles(): first and last alike", Cloths.cloth("101", "011", "110", "101").treadles(), 3);
        ClothDraft unused = new ClothDraft(8, 8);
        unused.treadleAll(0, 1);
        unused.tie(1, 2);
        unused.tie(2, 4);
        due("treadles(): ties of shafts without a warp", unused.treadles(), 1);
        unused.thread(7, 1);
        due("treadles(): one of them with a warp", unused.treadles(), 2);
    }

    private static void promise13Liftable() {
        at = "promise 13, ";
        // Warp 0 is above weft 0 and under weft 1; warp 1 is above both.
        ClothDraft x = Cloths.cloth("11", "01");
        int[] can = {0, 2, 2 + 512, 2 + 512 + 1, 2 + 512 + 1 + 256};
        for (int set = 0; set < 1024; set++) {
            boolean there = (set & ~(3 + 768)) == 0;
            boolean due = false;
            for (int one : can) {
                due |= set == one;
            }
            if (there) {
                due("liftable(" + set + ")", x.liftable(set), due ? 1 : 0);
                due("liftable(" + (set | ~771) + ")", x.liftable(set | ~771), due ? 1 : 0);
            }
        }
        due("liftable(4): no thread 2", x.liftable(4), 1);
        due("liftable(1 + 4)", x.liftable(1 + 4), 0);
        due("liftable(2 + 1024)", x.liftable(2 + 1024), 1);
        due("liftable(LOW)", x.liftable(LOW), 1);
        due("liftable(HIGH)", x.liftable(HIGH), 1);
        due("liftable(-1)", x.liftable(-1), 1);
        ClothDraft full = new ClothDraft(8, 8);
        due("liftable(32768): weft 7", full.liftable(32768), 1);
        due("liftable(128): warp 7", full.liftable(128), 0);
        due("liftable(65280): all wefts", full.liftable(65280), 1);
        due("liftable(65280 - 32768 + 128)", full.liftable(65280 - 32768 + 128), 0);
        due("liftable(65535 - 128)", full.liftable(65535 - 128), 1);
    }

    private static void promise14Hangs() {
        at = "promise 14, ";
        due("hangs() of a new cloth", new ClothDraft(1, 1).hangs(), 0);
        due("hangs() of a new cloth", new ClothDraft(8, 8).hangs(), 0);
        due("hangs(): the least cloth that does", Cloths.cloth("10", "01").hangs(), 1);
        due("hangs(): plain weave", Cloths.cloth("101", "010", "101").hangs(), 1);
        due("hangs(): a weft beneath all", Cloths.cloth("10", "01", "11").hangs(), 0);
        due("hangs(): two pieces, one on the other", Cloths.cloth("1011", "0111", "0010", "0001").hangs(), 0);
        due("hangs(): the two pieces caught", Cloths.cloth("1011", "0111", "1010", "0001").hangs(), 1);
    }

    private static void promise15Layers() {
        at = "promise 15, ";
        due("layers() of a new cloth", new ClothDraft(1, 1).layers(), 2);
        due("layers() of a new cloth", new ClothDraft(8, 8).layers(), 16);
        due("layers(): all hangs together", Cloths.cloth("10", "01").layers(), 1);
        due("layers(): a weft beneath all", Cloths.cloth("10", "01", "11").layers(), 2);
        due("layers(): a weft beneath, a warp above", Cloths.cloth("101", "011", "111").layers(), 3);
        due("layers(): two pieces, one on the other", Cloths.cloth("1011", "0111", "0010", "0001").layers(), 2);
        due("layers(): a stair", Cloths.cloth("11", "01").layers(), 4);
    }

    private static void promise16Together() {
        at = "promise 16, ";
        ClothDraft x = Cloths.cloth("1011", "0111", "1111", "1111");
        due("together(0, 1)", x.together(0, 1), 1);
        due("together(1, 0)", x.together(1, 0), 1);
        due("together(0, 8)", x.together(0, 8), 1);
        due("together(9, 8)", x.together(9, 8), 1);
        due("together(2, 3): alike, but not held", x.together(2, 3), 0);
        due("together(10, 11): alike, but not held", x.together(10, 11), 0);
        due("together(0, 2)", x.together(0, 2), 0);
        due("together(10, 1)", x.together(10, 1), 0);
        due("together(3, 3): a thread with itself", x.together(3, 3), 1);
        due("together(11, 11)", x.together(11, 11), 1);
        for (int wrong : new int[] {-1, 4, 7, 12, 15, 16, LOW, HIGH}) {
            due("together(" + wrong + ", 0)", x.together(wrong, 0), BAD);
            due("together(0, " + wrong + ")", x.together(0, wrong), BAD);
            due("together(" + wrong + ", " + wrong + ")", x.together(wrong, wrong), BAD);
        }
        ClothDraft pieces = Cloths.cloth("1011", "0111", "0010", "0001");
        due("together(2, 8): of two pieces", pieces.together(2, 8), 0);
        due("together(2, 11): of one piece", pieces.together(2, 11), 1);
        ClothDraft full = new ClothDraft(8, 8);
        full.threadAll(0, 1);
        full.treadleAll(0, 1);
        full.tie(0, 5);
        full.tie(1, 10);
        full.tie(2, 5);
        full.tie(3, 10);
        due("together(7, 15)", full.together(7, 15), 1);
    }

    private static void promise17Lifts() {
        at = "promise 17, ";
        due("lifts() of one crossing", new ClothDraft(1, 1).lifts(), 1);
        due("lifts(): any wefts, or all and any warps", new ClothDraft(8, 8).lifts(), 255 + 255 - 1);
        due("lifts(): all hangs together", Cloths.cloth("10", "01").lifts(), 0);
        due("lifts(): a weft beneath all", Cloths.cloth("10", "01", "11").lifts(), 1);
        due("lifts(): a stair", Cloths.cloth("11", "01").lifts(), 3);
        due("lifts(): any of two warps, the piece, any of two wefts",
                Cloths.cloth("1011", "0111", "1111", "1111").lifts(), 3 + 1 + 2);
    }

    private static void promise18Divisions() {
        at = "promise 18, ";
        due("divisions() of one crossing", new ClothDraft(1, 1).divisions(), 1);
        due("divisions(): the most, 8! * 8!", new ClothDraft(8, 8).divisions(), 40320 * 40320);
        due("divisions(): 8! * 1!", new ClothDraft(8, 1).divisions(), 40320);
        due("divisions(): all hangs together", Cloths.cloth("10", "01").divisions(), 1);
        due("divisions(): a weft beneath all", Cloths.cloth("10", "01", "11").divisions(), 1);
        due("divisions(): a stair", Cloths.cloth("11", "01").divisions(), 1);
        due("divisions(): two warps, the piece, two wefts",
                Cloths.cloth("1011", "0111", "1111", "1111").divisions(), 4);
        due("divisions(): three wefts beneath two warps", Cloths.cloth("11", "11", "11").divisions(), 12);
    }

    private static void questionsChangeNothing() {
        at = "questions, ";
        ClothDraft x = new ClothDraft(5, 6);
        x.threadAll(1, 3);
        x.treadleAll(2, 1);
        x.tie(0, 9);
        x.tie(2, 7);
        String before = Cloths.state(x);
        for (int i = -1; i < 17; i++) {
            x.above(i, i);
            x.longest(i);
            x.over(i);
            x.liftable(i);
            x.together(i, 16 - i);
        }
        x.shafts();
        x.treadles();
        x.hangs();
        x.layers();
        x.lifts();
        x.divisions();
        due("state", Cloths.state(x), before);
    }

    private static void objectsAreApart() {
        at = "two objects, ";
        ClothDraft x = new ClothDraft(2, 2);
        ClothDraft y = new ClothDraft(3, 1);
        x.invert();
        x.threadAll(1, 1);
        due("state of the other", Cloths.state(y), "000 0 0 0 0 0");
        due("state of the one", Cloths.state(x), "12 00 15 15 15 15");
    }

    private static void due(String call, Object got, Object want) {
        CHECK.due(at + call, got, want);
    }
}
