/** Counts the answers of one test that are not as due, and tells each of them. */
final class Checks {
    private final String name;
    private int asked;
    private int wrong;

    Checks(String name) {
        this.name = name;
    }

    void due(String what, long got, long want) {
        asked++;
        if (got != want) {
            tell(what + " answered " + got + ", due is " + want);
        }
    }

    void due(String what, String got, String want) {
        asked++;
        if (!got.equals(want)) {
            tell(what + " answered " + got + ", due is " + want);
        }
    }

    /** The call is to throw that exception and no other one. */
    void dueThrow(String what, Class<? extends RuntimeException> due, Runnable call) {
        due(what, thrownBy(call), due.getSimpleName());
    }

    static String thrownBy(Runnable call) {
        try {
            call.run();
            return "nothing";
        } catch (RuntimeException e) {
            return e.getClass().getSimpleName();
        }
    }

    boolean isWrong() {
        return wrong > 0;
    }

    private void tell(String text) {
        wrong++;
        if (wrong <= 20) {
            System.out.println(name + ": " + text);
        }
    }

    void finish() {
        System.out.println(name + ": " + (asked - wrong) + " of " + asked + " answers are as due");
        if (wrong != 0 || asked == 0) {
            System.exit(1);
        }
    }
}
