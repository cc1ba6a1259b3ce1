/** Holds answers against those that are due, and tells each that is not. */
final class Due {
    private int wrong = 0;
    private int held = 0;
    private String promise = "";

    void promise(String name) {
        promise = name;
    }

    void is(String call, long got, long want) {
        held++;
        if (got != want) {
            wrong++;
            if (wrong <= 40) {
                System.out.println(promise + ": " + call + " answered " + got + ", due is " + want);
            }
        }
    }

    void is(String call, String got, String want) {
        held++;
        if (!got.equals(want)) {
            wrong++;
            if (wrong <= 40) {
                System.out.println(promise + ": " + call + " answered " + got + ", due is " + want);
            }
        }
    }

    int wrong() {
        return wrong;
    }

    int held() {
        return held;
    }

    void end() {
        System.out.println(held + " answers held, " + wrong + " not as due");
        if (wrong != 0) {
            System.exit(1);
        }
    }
}
