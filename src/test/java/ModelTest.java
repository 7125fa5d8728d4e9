/** All promises at once: long mixed runs, each call compared with the model. */
public final class ModelTest {
    private static final int RUNS = 3000;
    // What the document says of an object ends with its 512th call.
    private static final int CALLS = 512;

    public static void main(String[] args) {
        for (int run = 1; run <= RUNS; run++) {
            new Run(run).go();
        }
        Check.end();
    }

    private static final class Run {
        final int run;
        final TextReplica x = new TextReplica();
        final Model m = new Model();
        int call = 0;
        long seed;

        Run(int run) {
            this.run = run;
            this.seed = run * 7919L;
        }

        int pick(int bound) {
            seed = seed * 6364136223846793005L + 1442695040888963407L;
            return (int) ((seed >>> 33) % bound);
        }

        int replica() {
            return pick(40) == 0 ? Check.WRONG_REPLICAS[pick(Check.WRONG_REPLICAS.length)] : pick(3);
        }

        int place(int replica) {
            int length = Model.wrong(replica) ? 0 : m.textOf(replica).size();
            return pick(20) == 0 ? pick(2) * (length + 2) - 1 : pick(length + 1);
        }

        void due(String what, int got, int want) {
            Check.due("run " + run + ", call " + call + ": " + what, got, want);
        }

        void go() {
            // Some runs write seldom, so that their other calls meet many half-spread states.
            int writing = 5 + pick(60);
            int syncing = pick(15);
            // Every third run goes to the last call; the others end with a look at the whole state.
            boolean looks = run % 3 != 0;
            int calls = looks ? CALLS - Model.CALLS_TO_COMPARE : CALLS;
            for (call = 1; call <= calls; call++) {
                if (pick(100) < writing) {
                    write();
                } else if (pick(100) < syncing) {
                    int from = replica();
                    int to = replica();
                    due("sync(" + from + ", " + to + ")", x.sync(from, to), m.sync(from, to));
                } else {
                    deliverOrAsk();
                }
            }
            if (looks) {
                m.compareAll("run " + run + ", at its end", x);
            }
        }

        void write() {
            int r = replica();
            int p = place(r);
            if (pick(4) == 0) {
                due("delete(" + r + ", " + p + ")", x.delete(r, p), m.delete(r, p));
            } else {
                // Few letters make unlike changes look alike; letters that differ show every fault of the order.
                int letter = run % 2 == 0 ? pick(3) - 1 : call;
                due("insert(" + r + ", " + p + ", " + letter + ")", x.insert(r, p, letter), m.insert(r, p, letter));
            }
        }

        void deliverOrAsk() {
            int a = replica();
            int b = replica();
            int p = place(a);
            switch (pick(10)) {
                case 0 -> due("length(" + a + ")", x.length(a), m.length(a));
                case 1 -> due("letter(" + a + ", " + p + ")", x.letter(a, p), m.letter(a, p));
                case 2 -> due("row(" + a + ")", x.row(a), m.row(a));
                case 3 -> due("known(" + a + ", " + b + ")", x.known(a, b), m.known(a, b));
                case 4 -> due("alike(" + a + ", " + b + ")", x.alike(a, b), m.alike(a, b));
                default -> due("deliver(" + a + ", " + b + ")", x.deliver(a, b), m.deliver(a, b));
            }
        }
    }
}
