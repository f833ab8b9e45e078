/** Counts the answers of one test that are not as due, and tells each of them. */
final class Checks {
    private final String name;
    private int asked;
    private int wrong;
    private int sentences;
    private String sentence = "";
    private int askedBefore;

    Checks(String name) {
        this.name = name;
    }

    /** What is asked from here on tests a sentence of the document; one that nothing is asked about is wrong. */
    void sentence(String words) {
        endSentence();
        sentences++;
        sentence = words;
        askedBefore = asked;
    }

    private void endSentence() {
        if (sentences > 0 && asked == askedBefore) {
            tell("nothing was asked");
        }
    }

    void due(String what, long got, long want) {
        asked++;
        if (got != want) {
            tell(what + " answered " + got + ", due is " + want);
        }
    }

    void due(String what, String got, String want) {
        asked++;
        if (!got.equals(want)) {
            tell(what + " answered " + got + ", due is " + want);
        }
    }

    /** The call is to throw that exception and no other one. */
    void dueThrow(String what, Class<? extends RuntimeException> due, Runnable call) {
        due(what, thrownBy(call), due.getSimpleName());
    }

    static String thrownBy(Runnable call) {
        try {
            call.run();
            return "nothing";
        } catch (RuntimeException e) {
            return e.getClass().getSimpleName();
        }
    }

    boolean isWrong() {
        return wrong > 0;
    }

    private void tell(String text) {
        wrong++;
        if (wrong <= 20) {
            System.out.println(name + ": " + text + (sentence.isEmpty() ? "" : " (\"" + sentence + "\")"));
        }
    }

    void finish() {
        endSentence();
        String about = sentences > 0 ? ", about " + sentences + " sentences" : "";
        System.out.println(name + ": " + (asked - wrong) + " of " + asked + " answers are as due" + about);
        if (wrong != 0 || asked == 0) {
            System.exit(1);
        }
    }
}
