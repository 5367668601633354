/** Counts the answers that are not as due, and prints the first of them. */
final class Check {
    // A fault can show in each of many thousand cloths: more rows tell nothing more.
    private static final int PRINTED = 40;

    private int made = 0;
    private int wrong = 0;

    void due(String call, Object got, Object want) {
        made++;
        if (!got.equals(want)) {
            wrong++;
            if (wrong <= PRINTED) {
                System.out.println(call + " answered " + got + ", due is " + want);
            }
        }
    }

    void refused(String call, int got) {
        due(call, got, ClothDraft.BAD_ARG);
    }

    /** A test that looked at no answer has shown nothing. */
    boolean holds() {
        return wrong == 0 && made != 0;
    }

    void finish() {
        System.out.println(made + " answers looked at, " + wrong + " not as due");
        if (!holds()) {
            System.exit(1);
        }
    }
}
