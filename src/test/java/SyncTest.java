/** Promise 5: sync. */
public final class SyncTest {
    public static void main(String[] args) {
        bringsAllThatFromKnows();
        takesNothingAway();
        bringsNoMoreThanFromKnows();
        withItselfChangesNothing();
        refuses();
        Check.end();
    }

    private static void bringsAllThatFromKnows() {
        TextReplica x = new TextReplica();
        x.insert(0, 0, 1);
        x.insert(0, 1, 2);
        Check.due("sync(0, 1)", x.sync(0, 1), 0);
        x.insert(1, 1, 3);
        x.delete(1, 0);
        Check.due("sync(1, 2)", x.sync(1, 2), 0);
        Check.due("state", Check.state(x), "[1 2] row 2 known 2 0 0; [3 2] row 3 known 2 2 0; [3 2] row 3 known 2 2 0; ");
    }

    private static void takesNothingAway() {
        TextReplica x = new TextReplica();
        x.insert(0, 0, 1);
        x.insert(1, 0, 2);
        x.insert(1, 1, 3);
        x.insert(2, 0, 4);
        x.sync(2, 1);
        Check.due("sync(0, 1)", x.sync(0, 1), 0);
        Check.due("state", Check.state(x),
            "[1] row 1 known 1 0 0; [4 2 3 1] row 4 known 1 2 1; [4] row 1 known 0 0 1; ");
        String before = Check.state(x);
        Check.due("sync(0, 1) again", x.sync(0, 1), 0);
        Check.due("sync(2, 1) again", x.sync(2, 1), 0);
        Check.due("state", Check.state(x), before);
    }

    private static void bringsNoMoreThanFromKnows() {
        TextReplica x = new TextReplica();
        x.insert(0, 0, 1);
        x.insert(0, 1, 2);
        x.deliver(0, 1);
        Check.due("sync(1, 2)", x.sync(1, 2), 0);
        Check.due("state", Check.state(x), "[1 2] row 2 known 2 0 0; [1] row 1 known 1 0 0; [1] row 1 known 1 0 0; ");
    }

    private static void withItselfChangesNothing() {
        TextReplica x = new TextReplica();
        x.insert(0, 0, 1);
        x.insert(1, 0, 2);
        String before = Check.state(x);
        for (int replica = 0; replica < 3; replica++) {
            Check.due("sync with itself", x.sync(replica, replica), 0);
        }
        Check.due("sync from one that knows nothing", x.sync(2, 0), 0);
        Check.due("state", Check.state(x), before);
    }

    private static void refuses() {
        TextReplica x = new TextReplica();
        x.insert(0, 0, 1);
        x.insert(2, 0, 2);
        String before = Check.state(x);
        for (int replica : Check.WRONG_REPLICAS) {
            Check.due("sync from " + replica, x.sync(replica, 0), -1);
            Check.due("sync to " + replica, x.sync(0, replica), -1);
            Check.due("sync from and to " + replica, x.sync(replica, replica), -1);
        }
        Check.due("state", Check.state(x), before);
    }
}
