/** Promise 4: deliver. */
public final class DeliverTest {
    public static void main(String[] args) {
        bringsOneChangeInOrder();
        bringsOnlyTheOriginsOwnChanges();
        goesOnBehindASync();
        waitsForTheAnchor();
        waitsForTheDeletedLetter();
        aDeletedAnchorIsStillKnown();
        waitingBlocksLaterChanges();
        needsNoMoreThanTheAnchor();
        refuses();
        Check.end();
    }

    private static void bringsOneChangeInOrder() {
        TextReplica x = new TextReplica();
        x.insert(0, 0, 1);
        x.insert(0, 1, 2);
        x.delete(0, 0);
        Check.due("deliver 1", x.deliver(0, 2), 0);
        Check.due("state", Check.state(x), "[2] row 2 known 3 0 0; [] row 0 known 0 0 0; [1] row 1 known 1 0 0; ");
        Check.due("deliver 2", x.deliver(0, 2), 0);
        Check.due("text", Check.text(x, 2), "1 2");
        Check.due("deliver 3", x.deliver(0, 2), 0);
        Check.due("text", Check.text(x, 2), "2");
        Check.due("deliver 4", x.deliver(0, 2), -1);
        Check.due("state", Check.state(x), "[2] row 2 known 3 0 0; [] row 0 known 0 0 0; [2] row 2 known 3 0 0; ");
        x.insert(0, 0, 3);
        Check.due("deliver of a later change", x.deliver(0, 2), 0);
        Check.due("text", Check.text(x, 2), "3 2");
    }

    private static void bringsOnlyTheOriginsOwnChanges() {
        TextReplica x = new TextReplica();
        x.insert(0, 0, 1);
        x.sync(0, 1);
        Check.due("deliver of nothing own", x.deliver(1, 2), -1);
        Check.due("known", x.known(2, 0), 0);
    }

    private static void goesOnBehindASync() {
        TextReplica x = new TextReplica();
        x.insert(0, 0, 1);
        x.insert(0, 1, 2);
        x.sync(0, 1);
        x.insert(0, 2, 3);
        x.sync(1, 2);
        Check.due("deliver of the third", x.deliver(0, 2), 0);
        Check.due("text", Check.text(x, 2), "1 2 3");
        Check.due("deliver of the fourth", x.deliver(0, 2), -1);
    }

    private static void waitsForTheAnchor() {
        TextReplica x = new TextReplica();
        x.insert(0, 0, 1);
        x.sync(0, 1);
        x.insert(1, 1, 2);
        String before = Check.state(x);
        Check.due("deliver without the anchor", x.deliver(1, 2), -2);
        Check.due("deliver without the anchor again", x.deliver(1, 2), -2);
        Check.due("state", Check.state(x), before);
        Check.due("deliver of the anchor", x.deliver(0, 2), 0);
        Check.due("deliver behind the anchor", x.deliver(1, 2), 0);
        Check.due("text", Check.text(x, 2), "1 2");
    }

    private static void waitsForTheDeletedLetter() {
        TextReplica x = new TextReplica();
        x.insert(0, 0, 1);
        x.sync(0, 1);
        x.delete(1, 0);
        String before = Check.state(x);
        Check.due("deliver without the letter", x.deliver(1, 2), -2);
        Check.due("state", Check.state(x), before);
        Check.due("deliver of the letter", x.deliver(0, 2), 0);
        Check.due("length", x.length(2), 1);
        Check.due("deliver of the delete", x.deliver(1, 2), 0);
        Check.due("length", x.length(2), 0);
        Check.due("row", x.row(2), 1);
    }

    private static void aDeletedAnchorIsStillKnown() {
        TextReplica x = new TextReplica();
        x.insert(0, 0, 1);
        x.sync(0, 1);
        x.sync(0, 2);
        x.delete(2, 0);
        x.insert(1, 1, 2);
        x.delete(1, 0);
        Check.due("deliver behind a deleted letter", x.deliver(1, 2), 0);
        Check.due("deliver of a second delete", x.deliver(1, 2), 0);
        Check.due("text", Check.text(x, 2), "2");
    }

    private static void waitingBlocksLaterChanges() {
        TextReplica x = new TextReplica();
        x.insert(0, 0, 1);
        x.sync(0, 1);
        x.insert(1, 1, 2);
        x.insert(1, 0, 3);
        Check.due("deliver", x.deliver(1, 2), -2);
        Check.due("deliver", x.deliver(1, 2), -2);
        Check.due("known", x.known(2, 1), 0);
        x.deliver(0, 2);
        Check.due("deliver", x.deliver(1, 2), 0);
        Check.due("deliver", x.deliver(1, 2), 0);
        Check.due("text", Check.text(x, 2), "3 1 2");
    }

    private static void needsNoMoreThanTheAnchor() {
        TextReplica x = new TextReplica();
        x.insert(0, 0, 1);
        x.insert(0, 1, 2);
        x.sync(0, 1);
        x.insert(1, 0, 3);
        x.insert(1, 2, 4);
        Check.due("deliver without anchor", x.deliver(1, 2), 0);
        Check.due("deliver with unknown anchor", x.deliver(1, 2), -2);
        x.deliver(0, 2);
        Check.due("deliver with known anchor", x.deliver(1, 2), 0);
        Check.due("text", Check.text(x, 2), "3 1 4");
        x.deliver(0, 2);
        Check.due("text", Check.text(x, 2), "3 1 4 2");
    }

    private static void refuses() {
        TextReplica x = new TextReplica();
        x.insert(0, 0, 1);
        x.insert(1, 0, 2);
        String before = Check.state(x);
        for (int replica : Check.WRONG_REPLICAS) {
            Check.due("deliver from " + replica, x.deliver(replica, 0), -1);
            Check.due("deliver to " + replica, x.deliver(0, replica), -1);
            Check.due("deliver from and to " + replica, x.deliver(replica, replica), -1);
        }
        Check.due("deliver to itself", x.deliver(0, 0), -1);
        Check.due("deliver from one without changes", x.deliver(2, 0), -1);
        Check.due("state", Check.state(x), before);
    }
}
