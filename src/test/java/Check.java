/** Compares answers with those that are due, and ends a test. */
final class Check {
    private static int wrong = 0;

    private Check() {
    }

    static void due(String call, long got, long want) {
        if (got != want) {
            wrong++;
            System.out.println(call + " answered " + got + ", due is " + want);
        }
    }

    static void holds(String what, boolean truth) {
        if (!truth) {
            wrong++;
            System.out.println(what + " does not hold");
        }
    }

    static int type(AdjustmentStack stack, String text) {
        int length = 0;
        for (int i = 0; i < text.length(); i++) {
            length = stack.append(text.charAt(i));
        }
        return length;
    }

    static int load(AdjustmentStack stack, String text) {
        stack.clearText();
        type(stack, text);
        return stack.loadStack();
    }

    static void end() {
        System.out.println(wrong == 0 ? "all answers are as due" : wrong + " answers are not as due");
        if (wrong != 0) {
            System.exit(1);
        }
    }
}
