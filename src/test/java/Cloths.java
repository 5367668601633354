/** Cloths that several tests use, and what can be seen of a cloth. */
final class Cloths {
    /**
     * A cloth from its wefts, from the first to the last; in each, character c
     * is 1 if warp c is above. At most four warps, and four wefts that differ.
     */
    static ClothDraft cloth(String... wefts) {
        int w = wefts[0].length();
        ClothDraft made = new ClothDraft(w, wefts.length);
        made.threadAll(0, 1);
        int treadles = 0;
        for (int r = 0; r < wefts.length; r++) {
            int like = 0;
            while (!wefts[like].equals(wefts[r])) {
                like++;
            }
            int treadle = like == r ? treadles++ : made.treadle(like, 0);
            made.treadle(like, treadle);
            made.treadle(r, treadle);
            made.tie(treadle, Integer.parseInt(new StringBuilder(wefts[r]).reverse().toString(), 2));
        }
        return made;
    }

    /** A cloth in which warp c is on shaft c mod 4 and weft r with treadle r mod 4. */
    static ClothDraft straight(int w, int h, int tie0, int tie1, int tie2, int tie3) {
        ClothDraft made = new ClothDraft(w, h);
        made.threadAll(0, 1);
        made.treadleAll(0, 1);
        made.tie(0, tie0);
        made.tie(1, tie1);
        made.tie(2, tie2);
        made.tie(3, tie3);
        return made;
    }

    /** Over, under, over, under: it hangs together from 2 warps and 2 wefts on. */
    static ClothDraft plainWeave(int w, int h) {
        return straight(w, h, 5, 10, 5, 10);
    }

    /**
     * Each shaft is above one treadle more than the shaft before. From above: the
     * warps on shaft 3, the wefts with treadle 3, the warps on shaft 2, and so on.
     */
    static ClothDraft stair(int w, int h) {
        return straight(w, h, 15, 14, 12, 8);
    }

    /** 3 warps and 5 wefts, no two of the warps alike. */
    static ClothDraft uneven() {
        return cloth("101", "110", "111", "001", "101");
    }

    static boolean isThread(int t, int w, int h) {
        return t >= 0 && t < w || t >= 8 && t < 8 + h;
    }

    /** For each warp, 1 if it is above weft r. */
    static String weft(ClothDraft x, int r, int w) {
        StringBuilder text = new StringBuilder();
        for (int c = 0; c < w; c++) {
            text.append(x.above(c, r));
        }
        return text.toString();
    }

    /**
     * The threading, the treadling and the ties, as far as there are warps and
     * wefts; each is read by setting it, and then set back.
     */
    static String state(ClothDraft x) {
        StringBuilder text = new StringBuilder();
        for (int c = 0; c < 8; c++) {
            text.append(read(x, Call.named("thread"), c));
        }
        text.append(" ");
        for (int r = 0; r < 8; r++) {
            text.append(read(x, Call.named("treadle"), r));
        }
        for (int i = 0; i < 4; i++) {
            text.append(" ").append(read(x, Call.named("tie"), i));
        }
        return text.toString();
    }

    private static String read(ClothDraft x, Call call, int of) {
        int before = call.on(x, of, 0);
        if (before == ClothDraft.BAD_ARG) {
            return "";
        }
        call.on(x, of, before);
        return "" + before;
    }

    /** What the questions answer, some sets and pairs of threads standing for all. */
    static String answers(ClothDraft x) {
        StringBuilder text = new StringBuilder();
        for (int r = 0; r < 8; r++) {
            text.append(weft(x, r, 8)).append(" ");
        }
        for (int t = 0; t < 16; t++) {
            text.append(" ").append(x.longest(t)).append(x.over(t));
            text.append(x.liftable(1 << t)).append(x.together(t, t / 2));
        }
        for (Call call : Call.ALL) {
            if (call.arguments() == 0 && !call.name().equals("invert")) {
                text.append(" ").append(call.on(x, 0, 0));
            }
        }
        return text.toString();
    }
}
