/** Compares answers with those that are due, and ends a test. */
final class Check {
    private static int wrong = 0;
    private static String part = "";

    private Check() {
    }

    /** The promise that the checks from here on are about. */
    static void promise(int number, String title) {
        part = "Promise " + number + ": " + title + ": ";
    }

    /** The part of the description that the checks from here on are about. */
    static void description(String title) {
        part = "Description: " + title + ": ";
    }

    static void due(String call, long got, long want) {
        if (got != want) {
            wrong++;
            System.out.println(part + call + " answered " + got + ", due is " + want);
        }
    }

    static void holds(String what, boolean truth) {
        if (!truth) {
            wrong++;
            System.out.println(part + what + " does not hold");
        }
    }

    static int type(AdjustmentStack stack, String text) {
        int length = 0;
        for (int i = 0; i < text.length(); i++) {
            length = stack.append(text.charAt(i));
        }
        return length;
    }

    static int load(AdjustmentStack stack, String text) {
        stack.clearText();
        type(stack, text);
        return stack.loadStack();
    }

    static void end() {
        System.out.println(wrong == 0 ? "all answers are as due" : wrong + " answers are not as due");
        if (wrong != 0) {
            System.exit(1);
        }
    }
}
