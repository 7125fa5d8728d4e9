import java.util.ArrayList;
import java.util.HashSet;
import java.util.List;
import java.util.Set;

/**
 * A model that follows the document's words one by one, with sets of changes and a row that is built anew, by
 * recursion, each time it is asked for.
 */
final class Model {
    // The most calls that compareAll makes on an object: of each replica, with 48 letters.
    static final int CALLS_TO_COMPARE = 3 * (2 + 48 + 6);

    private static final class Change {
        boolean isDelete;
        int origin;
        int number;
        int stamp;
        int letter;
        Change base;
    }

    final List<Change> all = new ArrayList<>();
    final List<Set<Change>> knows = List.of(new HashSet<>(), new HashSet<>(), new HashSet<>());

    static boolean wrong(int replica) {
        return replica < 0 || replica > 2;
    }

    void follow(int replica, Change anchor, List<Change> row) {
        List<Change> next = new ArrayList<>();
        for (Change c : knows.get(replica)) {
            if (!c.isDelete && c.base == anchor) {
                next.add(c);
            }
        }
        next.sort((c, d) -> c.stamp != d.stamp ? d.stamp - c.stamp : d.origin - c.origin);
        for (Change c : next) {
            row.add(c);
            follow(replica, c, row);
        }
    }

    List<Change> rowOf(int replica) {
        List<Change> row = new ArrayList<>();
        follow(replica, null, row);
        return row;
    }

    List<Change> textOf(int replica) {
        List<Change> text = rowOf(replica);
        for (Change c : knows.get(replica)) {
            if (c.isDelete) {
                text.remove(c.base);
            }
        }
        return text;
    }

    List<Integer> lettersOf(int replica) {
        List<Integer> letters = new ArrayList<>();
        for (Change c : textOf(replica)) {
            letters.add(c.letter);
        }
        return letters;
    }

    int make(int origin, boolean isDelete, Change base, int letter) {
        Change made = new Change();
        made.isDelete = isDelete;
        made.origin = origin;
        made.base = base;
        made.letter = letter;
        made.number = 1;
        for (Change c : all) {
            if (c.origin == origin) {
                made.number++;
            }
        }
        made.stamp = 1;
        for (Change c : knows.get(origin)) {
            if (!c.isDelete) {
                made.stamp = Math.max(made.stamp, c.stamp + 1);
            }
        }
        all.add(made);
        knows.get(origin).add(made);
        return textOf(origin).size();
    }

    int insert(int replica, int place, int letter) {
        if (wrong(replica) || all.size() == 48 || place < 0 || place > textOf(replica).size()) {
            return -1;
        }
        return make(replica, false, place == 0 ? null : textOf(replica).get(place - 1), letter);
    }

    int delete(int replica, int place) {
        if (wrong(replica) || all.size() == 48 || place < 0 || place >= textOf(replica).size()) {
            return -1;
        }
        return make(replica, true, textOf(replica).get(place), 0);
    }

    int deliver(int from, int to) {
        if (wrong(from) || wrong(to)) {
            return -1;
        }
        Change least = null;
        for (Change c : all) {
            boolean wanted = c.origin == from && !knows.get(to).contains(c);
            if (wanted && (least == null || c.number < least.number)) {
                least = c;
            }
        }
        if (least == null) {
            return -1;
        }
        if (least.base != null && !knows.get(to).contains(least.base)) {
            return -2;
        }
        knows.get(to).add(least);
        return 0;
    }

    int sync(int from, int to) {
        if (wrong(from) || wrong(to)) {
            return -1;
        }
        knows.get(to).addAll(new ArrayList<>(knows.get(from)));
        return 0;
    }

    int length(int replica) {
        return wrong(replica) ? -1 : textOf(replica).size();
    }

    int letter(int replica, int place) {
        boolean none = wrong(replica) || place < 0 || place >= textOf(replica).size();
        return none ? 0 : textOf(replica).get(place).letter;
    }

    int row(int replica) {
        return wrong(replica) ? -1 : rowOf(replica).size();
    }

    int known(int replica, int origin) {
        if (wrong(replica) || wrong(origin)) {
            return -1;
        }
        int count = 0;
        for (Change c : knows.get(replica)) {
            count += c.origin == origin ? 1 : 0;
        }
        return count;
    }

    int alike(int a, int b) {
        if (wrong(a) || wrong(b)) {
            return -1;
        }
        return lettersOf(a).equals(lettersOf(b)) ? 1 : 0;
    }

    /** Grows with every call that moves the state, and with no other. */
    int knownInAll() {
        return knows.get(0).size() + knows.get(1).size() + knows.get(2).size();
    }

    /** Compares all that the object shows with the model. */
    void compareAll(String run, TextReplica x) {
        for (int a = 0; a < 3; a++) {
            Check.due(run + ": length(" + a + ")", x.length(a), length(a));
            Check.due(run + ": row(" + a + ")", x.row(a), row(a));
            List<Integer> letters = lettersOf(a);
            for (int p = 0; p < letters.size(); p++) {
                Check.due(run + ": letter(" + a + ", " + p + ")", x.letter(a, p), letters.get(p));
            }
            for (int b = 0; b < 3; b++) {
                Check.due(run + ": known(" + a + ", " + b + ")", x.known(a, b), known(a, b));
                Check.due(run + ": alike(" + a + ", " + b + ")", x.alike(a, b), alike(a, b));
            }
        }
    }
}
