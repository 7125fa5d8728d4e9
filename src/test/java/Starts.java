/** Objects in the states from which the tests of the boundary cases start. */
final class Starts {
    private Starts() {
    }

    /** The replica shows the letters 1, 2, .. up to the count; the others know nothing. */
    static TextReplica letters(int replica, int count) {
        TextReplica x = new TextReplica();
        for (int i = 0; i < count; i++) {
            x.insert(replica, i, i + 1);
        }
        return x;
    }

    /** All three replicas show the letters 1, 2, .. up to the count. */
    static TextReplica shared(int count) {
        TextReplica x = letters(0, count);
        x.sync(0, 1);
        x.sync(0, 2);
        return x;
    }

    /**
     * Replica 0 shows 10 11 12, replica 1 shows 10 20 and has deleted 11, replica 2 shows 30 alone. Next for
     * replica 2 from origin 1 is the insert of 20, whose anchor 10 it doesn't know.
     */
    static TextReplica spread() {
        TextReplica x = new TextReplica();
        x.insert(0, 0, 10);
        x.insert(0, 1, 11);
        x.sync(0, 1);
        x.insert(1, 1, 20);
        x.delete(1, 2);
        x.insert(2, 0, 30);
        x.insert(0, 2, 12);
        return x;
    }

    /** As spread, but next for replica 2 from origin 1 is the delete of 11, which replica 2 doesn't know. */
    static TextReplica deleteWaits() {
        TextReplica x = spread();
        x.deliver(0, 2);
        x.deliver(1, 2);
        return x;
    }

    /** The given number of changes, up to 48: inserts and deletes at all three replicas, partly spread. */
    static TextReplica mixed(int changes) {
        TextReplica x = new TextReplica();
        for (int i = 0; i < changes; i++) {
            if (i % 8 == 7) {
                x.delete(i % 3, 1);
            } else {
                x.insert(i % 3, x.length(i % 3) / 2, i + 1);
            }
            if (i % 10 == 5) {
                x.sync(i % 3, (i + 1) % 3);
            }
        }
        return x;
    }

    static void syncAll(TextReplica x) {
        x.sync(0, 1);
        x.sync(1, 2);
        x.sync(2, 1);
        x.sync(2, 0);
    }
}
