/** Counts the answers that are not as due, for the tests of the project. */
final class Checks {
    private final String test;
    private String sentence = "";
    private int sentences = 0;
    private int madeBefore = 0;
    private int made = 0;
    private int wrong = 0;

    Checks(String test) {
        this.test = test;
    }

    /** The answers from here on are those that this sentence of the document asks for. */
    void sentence(String words) {
        endSentence();
        sentence = "\"" + words + "\": ";
        sentences++;
        madeBefore = made;
    }

    void due(String what, long got, long want) {
        made++;
        if (got != want) {
            wrong++;
            System.out.println(test + ": " + sentence + what + " answered " + got + ", due is " + want);
        }
    }

    void due(String what, boolean got, boolean want) {
        due(what, got ? 1 : 0, want ? 1 : 0);
    }

    boolean allAsDue() {
        return wrong == 0;
    }

    void end() {
        endSentence();
        String counted = sentences > 0 ? sentences + " sentences, " : "";
        System.out.println(test + ": " + counted + made + " answers looked at, " + wrong + " wrong");
        if (wrong != 0) {
            System.exit(1);
        }
    }

    private void endSentence() {
        if (sentences > 0 && made == madeBefore) {
            wrong++;
            System.out.println(test + ": " + sentence + "no answer was looked at");
        }
    }
}
