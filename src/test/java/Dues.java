/** Collects answers that are not as due, and tells them. */
final class Dues {
    private int asked = 0;
    private int wrong = 0;
    private String sentence = "";

    /** The sentence of the document that the next answers are asked for. */
    void about(String words) {
        sentence = words + ": ";
    }

    void due(String call, long got, long want) {
        asked++;
        if (got != want) {
            wrong++;
            System.out.println(sentence + call + " answered " + got + ", due is " + want);
        }
    }

    void same(String what, String got, String want) {
        asked++;
        if (!got.equals(want)) {
            wrong++;
            System.out.println(sentence + what + " shows\n  " + got + "\n  due is\n  " + want);
        }
    }

    void holds(String what, boolean so) {
        asked++;
        if (!so) {
            wrong++;
            System.out.println(sentence + "does not hold: " + what);
        }
    }

    boolean tooMany() {
        return wrong > 50;
    }

    void end() {
        System.out.println(asked + " asked, " + wrong + " not as due");
        if (wrong != 0 || asked == 0) {
            System.exit(1);
        }
    }
}
