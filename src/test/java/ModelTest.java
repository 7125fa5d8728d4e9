import java.util.ArrayList;
import java.util.HashSet;
import java.util.List;
import java.util.Set;

/**
 * All promises at once: long mixed runs against a model that follows the document's words one by one,
 * with sets of changes and a row that is built anew, by recursion, each time it is asked for.
 */
public final class ModelTest {
    private static final int RUNS = 3000;
    // With the calls that read off the state at the end, a run stays within the 512 calls of an object.
    private static final int CALLS = 320;

    public static void main(String[] args) {
        for (int run = 1; run <= RUNS; run++) {
            new Run(run).go();
        }
        Check.end();
    }

    private static final class Change {
        boolean isDelete;
        int origin;
        int number;
        int stamp;
        int letter;
        Change base;
    }

    private static final class Model {
        final List<Change> all = new ArrayList<>();
        final List<Set<Change>> knows = List.of(new HashSet<>(), new HashSet<>(), new HashSet<>());

        static boolean wrong(int replica) {
            return replica < 0 || replica > 2;
        }

        void follow(int replica, Change anchor, List<Change> row) {
            List<Change> next = new ArrayList<>();
            for (Change c : knows.get(replica)) {
                if (!c.isDelete && c.base == anchor) {
                    next.add(c);
                }
            }
            next.sort((c, d) -> c.stamp != d.stamp ? d.stamp - c.stamp : d.origin - c.origin);
            for (Change c : next) {
                row.add(c);
                follow(replica, c, row);
            }
        }

        List<Change> rowOf(int replica) {
            List<Change> row = new ArrayList<>();
            follow(replica, null, row);
            return row;
        }

        List<Change> textOf(int replica) {
            List<Change> text = rowOf(replica);
            for (Change c : knows.get(replica)) {
                if (c.isDelete) {
                    text.remove(c.base);
                }
            }
            return text;
        }

        List<Integer> lettersOf(int replica) {
            List<Integer> letters = new ArrayList<>();
            for (Change c : textOf(replica)) {
                letters.add(c.letter);
            }
            return letters;
        }

        int make(int origin, boolean isDelete, Change base, int letter) {
            Change made = new Change();
            made.isDelete = isDelete;
            made.origin = origin;
            made.base = base;
            made.letter = letter;
            made.number = 1;
            for (Change c : all) {
                if (c.origin == origin) {
                    made.number++;
                }
            }
            made.stamp = 1;
            for (Change c : knows.get(origin)) {
                if (!c.isDelete) {
                    made.stamp = Math.max(made.stamp, c.stamp + 1);
                }
            }
            all.add(made);
            knows.get(origin).add(made);
            return textOf(origin).size();
        }

        int insert(int replica, int place, int letter) {
            if (wrong(replica) || all.size() == 48 || place < 0 || place > textOf(replica).size()) {
                return -1;
            }
            return make(replica, false, place == 0 ? null : textOf(replica).get(place - 1), letter);
        }

        int delete(int replica, int place) {
            if (wrong(replica) || all.size() == 48 || place < 0 || place >= textOf(replica).size()) {
                return -1;
            }
            return make(replica, true, textOf(replica).get(place), 0);
        }

        int deliver(int from, int to) {
            if (wrong(from) || wrong(to)) {
                return -1;
            }
            Change least = null;
            for (Change c : all) {
                boolean wanted = c.origin == from && !knows.get(to).contains(c);
                if (wanted && (least == null || c.number < least.number)) {
                    least = c;
                }
            }
            if (least == null) {
                return -1;
            }
            if (least.base != null && !knows.get(to).contains(least.base)) {
                return -2;
            }
            knows.get(to).add(least);
            return 0;
        }

        int sync(int from, int to) {
            if (wrong(from) || wrong(to)) {
                return -1;
            }
            knows.get(to).addAll(new ArrayList<>(knows.get(from)));
            return 0;
        }

        int length(int replica) {
            return wrong(replica) ? -1 : textOf(replica).size();
        }

        int letter(int replica, int place) {
            boolean none = wrong(replica) || place < 0 || place >= textOf(replica).size();
            return none ? 0 : textOf(replica).get(place).letter;
        }

        int row(int replica) {
            return wrong(replica) ? -1 : rowOf(replica).size();
        }

        int known(int replica, int origin) {
            if (wrong(replica) || wrong(origin)) {
                return -1;
            }
            int count = 0;
            for (Change c : knows.get(replica)) {
                count += c.origin == origin ? 1 : 0;
            }
            return count;
        }

        int alike(int a, int b) {
            if (wrong(a) || wrong(b)) {
                return -1;
            }
            return lettersOf(a).equals(lettersOf(b)) ? 1 : 0;
        }
    }

    private static final class Run {
        final int run;
        final TextReplica x = new TextReplica();
        final Model m = new Model();
        int call = 0;
        long seed;

        Run(int run) {
            this.run = run;
            this.seed = run * 7919L;
        }

        int pick(int bound) {
            seed = seed * 6364136223846793005L + 1442695040888963407L;
            return (int) ((seed >>> 33) % bound);
        }

        int replica() {
            return pick(40) == 0 ? Check.WRONG_REPLICAS[pick(Check.WRONG_REPLICAS.length)] : pick(3);
        }

        int place(int replica) {
            int length = Model.wrong(replica) ? 0 : m.textOf(replica).size();
            return pick(20) == 0 ? pick(2) * (length + 2) - 1 : pick(length + 1);
        }

        void due(String what, int got, int want) {
            Check.due("run " + run + ", call " + call + ": " + what, got, want);
        }

        void go() {
            // Some runs write seldom, so that their other calls meet many half-spread states.
            int writing = 5 + pick(60);
            int syncing = pick(15);
            for (call = 1; call <= CALLS; call++) {
                if (pick(100) < writing) {
                    write();
                } else if (pick(100) < syncing) {
                    int from = replica();
                    int to = replica();
                    due("sync(" + from + ", " + to + ")", x.sync(from, to), m.sync(from, to));
                } else {
                    deliverOrAsk();
                }
            }
            compareAll();
        }

        void write() {
            int r = replica();
            int p = place(r);
            if (pick(4) == 0) {
                due("delete(" + r + ", " + p + ")", x.delete(r, p), m.delete(r, p));
            } else {
                // Few letters make unlike changes look alike; letters that differ show every fault of the order.
                int letter = run % 2 == 0 ? pick(3) - 1 : call;
                due("insert(" + r + ", " + p + ", " + letter + ")", x.insert(r, p, letter), m.insert(r, p, letter));
            }
        }

        void deliverOrAsk() {
            int a = replica();
            int b = replica();
            int p = place(a);
            switch (pick(10)) {
                case 0 -> due("length(" + a + ")", x.length(a), m.length(a));
                case 1 -> due("letter(" + a + ", " + p + ")", x.letter(a, p), m.letter(a, p));
                case 2 -> due("row(" + a + ")", x.row(a), m.row(a));
                case 3 -> due("known(" + a + ", " + b + ")", x.known(a, b), m.known(a, b));
                case 4 -> due("alike(" + a + ", " + b + ")", x.alike(a, b), m.alike(a, b));
                default -> due("deliver(" + a + ", " + b + ")", x.deliver(a, b), m.deliver(a, b));
            }
        }

        void compareAll() {
            for (int a = 0; a < 3; a++) {
                due("last length(" + a + ")", x.length(a), m.length(a));
                due("last row(" + a + ")", x.row(a), m.row(a));
                List<Integer> letters = m.lettersOf(a);
                for (int p = 0; p < letters.size(); p++) {
                    due("last letter(" + a + ", " + p + ")", x.letter(a, p), letters.get(p));
                }
                for (int b = 0; b < 3; b++) {
                    due("last known(" + a + ", " + b + ")", x.known(a, b), m.known(a, b));
                    due("last alike(" + a + ", " + b + ")", x.alike(a, b), m.alike(a, b));
                }
            }
        }
    }
}
