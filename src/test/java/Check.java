/** Counts the answers that are not as due; a test's main method ends with end(). */
final class Check {
    private static int wrong = 0;
    private static int asked = 0;
    private static String heldAgainst = "";

    private Check() {
    }

    /** From here on answers are held against that sentence, which must stand in the document. */
    static void promise(int number, String sentence) {
        heldAgainst = "";
        holds("the document says, of promise " + number + ", \"" + sentence + "\"", Document.says(number, sentence));
        heldAgainst = "promise " + number + ", \"" + sentence + "\": ";
    }

    /** From here on answers are held against no sentence of their own. */
    static void noPromise() {
        heldAgainst = "";
    }

    static void due(String call, long got, long want) {
        asked++;
        if (got != want) {
            wrong++;
            System.out.println(heldAgainst + call + " answered " + got + ", due is " + want);
        }
    }

    static void holds(String what, boolean holds) {
        due(what, holds ? 1 : 0, 1);
    }

    static void end() {
        System.out.println(asked + " answers, " + wrong + " not as due");
        if (wrong != 0) {
            System.exit(1);
        }
    }
}
