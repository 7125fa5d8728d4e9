import java.util.ArrayList;
import java.util.List;
import java.util.function.Consumer;
import java.util.function.Supplier;
import java.util.function.ToIntFunction;

/**
 * That a call changes nothing: of two objects with the same past one gets the call, and then all calls made
 * afterwards answer the same on both. Each kind of sequel gets a pair of its own, for a fault may show only
 * to the first call that follows it.
 */
final class Unmoved {
    private static final List<Consumer<Told>> SEQUELS = List.of(
        Told::readAll, Told::insertOn, Told::deleteOn, Told::deliverOn, Told::syncOn, Told::fillUp);
    // A small shift may hide behind one call and show only when calls add up.
    private static final int[] TIMES = {1, 5};

    private Unmoved() {
    }

    static void due(String name, Supplier<TextReplica> start, ToIntFunction<TextReplica> call, int want) {
        for (Consumer<Told> sequel : SEQUELS) {
            for (int times : TIMES) {
                Told without = new Told(start.get());
                Told with = new Told(start.get());
                for (int i = 0; i < times; i++) {
                    Check.due(name, call.applyAsInt(with.x), want);
                }
                sequel.accept(without);
                sequel.accept(with);
                compare(name + " (" + times + " times)", with.rows, without.rows);
            }
        }
    }

    private static void compare(String name, List<String> with, List<String> without) {
        for (int i = 0; i < with.size() && i < without.size(); i++) {
            if (!with.get(i).equals(without.get(i))) {
                Check.due("after " + name + ", later call " + i, with.get(i), without.get(i));
                return;
            }
        }
        Check.due("after " + name + ", count of later calls", with.size(), without.size());
    }

    /** Makes calls on an object and writes down what it answers. */
    private static final class Told {
        final TextReplica x;
        final List<String> rows = new ArrayList<>();

        Told(TextReplica x) {
            this.x = x;
        }

        int tell(String call, int answer) {
            rows.add(call + " -> " + answer);
            return answer;
        }

        int insert(int replica, int place, int letter) {
            return tell("insert(" + replica + ", " + place + ", " + letter + ")", x.insert(replica, place, letter));
        }

        void deliver(int from, int to) {
            tell("deliver(" + from + ", " + to + ")", x.deliver(from, to));
        }

        void readAll() {
            for (int a = 0; a < 3; a++) {
                int length = tell("length(" + a + ")", x.length(a));
                for (int place = 0; place < length; place++) {
                    tell("letter(" + a + ", " + place + ")", x.letter(a, place));
                }
                tell("row(" + a + ")", x.row(a));
                for (int b = 0; b < 3; b++) {
                    tell("known(" + a + ", " + b + ")", x.known(a, b));
                    tell("alike(" + a + ", " + b + ")", x.alike(a, b));
                }
            }
        }

        void syncAll() {
            Starts.syncAll(x);
            readAll();
        }

        // Three inserts of each replica before one place make every difference of their stamps seen.
        void insertOn() {
            for (int i = 0; i < 3; i++) {
                for (int replica = 0; replica < 3; replica++) {
                    insert(replica, 0, 100 + 10 * replica + i);
                }
            }
            syncAll();
        }

        void deleteOn() {
            for (int i = 0; i < 2; i++) {
                for (int replica = 0; replica < 3; replica++) {
                    tell("delete(" + replica + ", " + i + ")", x.delete(replica, i));
                }
            }
            syncAll();
        }

        void deliverOn() {
            for (int i = 0; i < 12; i++) {
                for (int from = 0; from < 3; from++) {
                    deliver(from, (from + 1) % 3);
                    deliver(from, (from + 2) % 3);
                }
            }
            readAll();
        }

        void syncOn() {
            for (int to = 0; to < 3; to++) {
                tell("sync", x.sync((to + 1) % 3, to));
                tell("length(" + to + ")", x.length(to));
                tell("row(" + to + ")", x.row(to));
            }
            readAll();
        }

        void fillUp() {
            for (int i = 0; i < 49; i++) {
                insert(i % 3, 0, 200 + i);
            }
            readAll();
        }
    }
}
