/** Counts the answers that are not as due, and tells the line of each. */
final class Due {
    private static int wrong = 0;
    private static String sentence = "";

    private Due() {
    }

    /** Names the sentence of the document that the answers from here on are due by. */
    static void by(String words) {
        sentence = words;
    }

    /** Compares an answer with the one that is due. */
    static void due(long want, long got) {
        if (want != got) {
            tell("answered " + got + ", due is " + want);
        }
    }

    /** Counts a fault and tells it with the line of the test that found it. */
    static void tell(String fault) {
        wrong++;
        System.out.println(callers() + ": " + fault + (sentence.isEmpty() ? "" : " by \"" + sentence + "\""));
    }

    /** Ends the program with exit code 1 if there was a fault. */
    static void end() {
        System.out.println(wrong == 0 ? "all answers are as due" : wrong + " answers are not as due");
        if (wrong != 0) {
            System.exit(1);
        }
    }

    private static String callers() {
        StringBuilder lines = new StringBuilder();
        for (StackTraceElement frame : new Throwable().getStackTrace()) {
            String method = frame.getMethodName();
            boolean ours = frame.getClassName().equals("Due") || method.equals("due") || method.equals("main");
            if (!ours) {
                lines.append(lines.length() == 0 ? "" : " from ");
                lines.append(method).append(" line ").append(frame.getLineNumber());
            }
        }
        return lines.toString();
    }
}
