/** What the tests share: comparing answers, and reading off an object's whole visible state. */
final class Check {
    static final int[] WRONG_REPLICAS = {-1, 3, 4, Integer.MIN_VALUE, Integer.MAX_VALUE};

    private static int wrong = 0;

    private Check() {
    }

    static void due(String call, long got, long want) {
        if (got != want) {
            wrong++;
            System.out.println(call + " answered " + got + ", due is " + want);
        }
    }

    static void due(String what, String got, String want) {
        if (!got.equals(want)) {
            wrong++;
            System.out.println(what + " is " + got + ", due is " + want);
        }
    }

    static String text(TextReplica x, int replica) {
        StringBuilder text = new StringBuilder();
        int length = x.length(replica);
        for (int place = 0; place < length; place++) {
            text.append(place == 0 ? "" : " ").append(x.letter(replica, place));
        }
        return text.toString();
    }

    static String state(TextReplica x) {
        StringBuilder state = new StringBuilder();
        for (int replica = 0; replica < 3; replica++) {
            state.append("[").append(text(x, replica)).append("] row ").append(x.row(replica)).append(" known");
            for (int origin = 0; origin < 3; origin++) {
                state.append(" ").append(x.known(replica, origin));
            }
            state.append("; ");
        }
        return state.toString();
    }

    /** Ends the test's program: exit code 1 if an answer was not the one that is due. */
    static void end() {
        System.out.println(wrong == 0 ? "all answers are as due" : wrong + " answers are not as due");
        if (wrong != 0) {
            System.exit(1);
        }
    }
}
