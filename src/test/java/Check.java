/** Counts the answers that are not as due, and prints each of them. */
final class Check {
    private int made = 0;
    private int wrong = 0;

    void due(String call, Object got, Object want) {
        made++;
        if (!got.equals(want)) {
            wrong++;
            System.out.println(call + " answered " + got + ", due is " + want);
        }
    }

    void finish() {
        System.out.println(made + " answers looked at, " + wrong + " not as due");
        if (wrong != 0 || made == 0) {
            System.exit(1);
        }
    }
}
