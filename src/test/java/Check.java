/** What the tests share: comparing answers, and reading off an object's whole visible state. */
final class Check {
    // Just outside, then far outside; among these some that a cut to fewer bits, or a product with 3 that
    // wraps around, would turn into the number of a replica.
    static final int[] WRONG_REPLICAS = {
        -1, 3, -2, 4, -3, 5, 9, 256, 65537, 0x55555555, 0x55555556, -0x55555555,
        Integer.MIN_VALUE, Integer.MIN_VALUE + 1, Integer.MAX_VALUE - 1, Integer.MAX_VALUE
    };
    // Far outside of every text.
    static final int[] FAR_PLACES = {
        -48, 49, -256, 256, -65536, 65537, Integer.MIN_VALUE, Integer.MIN_VALUE + 1,
        Integer.MAX_VALUE - 1, Integer.MAX_VALUE
    };

    private static int wrong = 0;

    private Check() {
    }

    static void due(String call, long got, long want) {
        if (got != want) {
            wrong++;
            System.out.println(call + " answered " + got + ", due is " + want);
        }
    }

    static void due(String what, String got, String want) {
        if (!got.equals(want)) {
            wrong++;
            System.out.println(what + " is " + got + ", due is " + want);
        }
    }

    static String text(TextReplica x, int replica) {
        StringBuilder text = new StringBuilder();
        int length = x.length(replica);
        for (int place = 0; place < length; place++) {
            text.append(place == 0 ? "" : " ").append(x.letter(replica, place));
        }
        return text.toString();
    }

    static String state(TextReplica x) {
        StringBuilder state = new StringBuilder();
        for (int replica = 0; replica < 3; replica++) {
            state.append("[").append(text(x, replica)).append("] row ").append(x.row(replica)).append(" known");
            for (int origin = 0; origin < 3; origin++) {
                state.append(" ").append(x.known(replica, origin));
            }
            state.append("; ");
        }
        return state.toString();
    }

    /** Ends the test's program: exit code 1 if an answer was not the one that is due. */
    static void end() {
        System.out.println(wrong == 0 ? "all answers are as due" : wrong + " answers are not as due");
        if (wrong != 0) {
            System.exit(1);
        }
    }
}
