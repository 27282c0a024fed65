/** Counts answers that are not as due, and ends the test accordingly. */
final class Check {
    private static int wrong = 0;
    private static int asked = 0;
    private static String sentence = "";

    private Check() {
    }

    /** What the checks from here on are about: told with each wrong answer. */
    static void about(String name) {
        sentence = name.isEmpty() ? "" : name + ": ";
    }

    static int asked() {
        return asked;
    }

    static void due(String call, long got, long want) {
        asked++;
        if (got != want) {
            wrong++;
            System.out.println(sentence + call + " answered " + got + ", due is " + want);
        }
    }

    static void holds(String what, boolean truth) {
        due(what, truth ? 1 : 0, 1);
    }

    static void end() {
        System.out.println(asked + " answers, " + wrong + " not as due");
        if (wrong != 0) {
            System.exit(1);
        }
    }
}
