/** Counts and prints the answers that are not as due. */
final class Due {
    private static int wrong = 0;
    private static int told = 0;

    private Due() {
    }

    static void due(String call, long got, long want) {
        told++;
        if (got != want) {
            wrong++;
            System.out.println(call + " answered " + got + ", due is " + want);
        }
    }

    static void holds(String what, boolean truth) {
        due(what, truth ? 1 : 0, 1);
    }

    static boolean anyWrong() {
        return wrong > 0;
    }

    /** Ends the test; its exit code is 1 if an answer was wrong. */
    static void end() {
        System.out.println(wrong == 0 ? told + " answers are as due" : wrong + " of " + told + " answers are not as due");
        System.exit(wrong == 0 ? 0 : 1);
    }
}
