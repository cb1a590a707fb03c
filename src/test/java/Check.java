/** Counts and prints what is not as due; a test ends with finish(). */
final class Check {
    private static int looked = 0;
    private static int wrong = 0;
    private static int sentences = 0;
    private static int lookedAhead = 0;
    private static String sentence = "";

    private Check() {
    }

    /** What is looked at from here on is what that sentence of the document says; none may have nothing looked at. */
    static void sentence(String text) {
        closeSentence();
        sentence = text;
        sentences++;
        lookedAhead = looked;
    }

    private static void closeSentence() {
        if (sentences > 0 && looked == lookedAhead) {
            wrong++;
            System.out.println("nothing was looked at for: " + sentence);
        }
    }

    static void due(String call, long got, long want) {
        looked++;
        if (got != want) {
            wrong++;
            System.out.println((sentence.isEmpty() ? "" : "[" + sentence + "] ") + call + " answered " + got + ", due is " + want);
        }
    }

    static void holds(String what, boolean so) {
        due(what, so ? 1 : 0, 1);
    }

    static void finish(String test) {
        closeSentence();
        System.out.println(test + ": " + (sentences > 0 ? sentences + " sentences, " : "") + looked + " looked at, " + wrong + " wrong");
        if (wrong > 0 || looked == 0) {
            System.exit(1);
        }
    }
}
