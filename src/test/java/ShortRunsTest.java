import java.util.ArrayList;
import java.util.List;

/**
 * All promises at once: every short run of calls, compared with the model. Calls that move nothing are made at
 * the end of every run but no run goes on behind them.
 */
public final class ShortRunsTest {
    private static final int MOST_CALLS = 5;
    private static final List<Call> CALLS = allCalls();

    private enum Kind { INSERT, DELETE, DELIVER, SYNC }

    private record Call(Kind kind, int a, int b) {
        // The letter tells apart the inserts of one run.
        int on(TextReplica x, int letter) {
            return switch (kind) {
                case INSERT -> x.insert(a, b, letter);
                case DELETE -> x.delete(a, b);
                case DELIVER -> x.deliver(a, b);
                case SYNC -> x.sync(a, b);
            };
        }

        int on(Model m, int letter) {
            return switch (kind) {
                case INSERT -> m.insert(a, b, letter);
                case DELETE -> m.delete(a, b);
                case DELIVER -> m.deliver(a, b);
                case SYNC -> m.sync(a, b);
            };
        }
    }

    public static void main(String[] args) {
        goOn(new ArrayList<>(), args.length == 0 ? MOST_CALLS : Integer.parseInt(args[0]));
        Check.end();
    }

    private static List<Call> allCalls() {
        List<Call> calls = new ArrayList<>();
        for (Kind kind : Kind.values()) {
            for (int a = 0; a < 3; a++) {
                for (int b = 0; b < 3; b++) {
                    calls.add(new Call(kind, a, b));
                }
            }
        }
        return calls;
    }

    private static void goOn(List<Call> run, int more) {
        for (Call call : CALLS) {
            TextReplica x = new TextReplica();
            Model m = new Model();
            for (int i = 0; i < run.size(); i++) {
                run.get(i).on(x, i + 1);
                run.get(i).on(m, i + 1);
            }
            int before = m.knownInAll();
            int letter = run.size() + 1;
            run.add(call);
            Check.due(run.toString(), call.on(x, letter), call.on(m, letter));
            m.compareAll(run.toString(), x);
            if (more > 1 && m.knownInAll() != before) {
                goOn(run, more - 1);
            }
            run.remove(run.size() - 1);
        }
    }
}
