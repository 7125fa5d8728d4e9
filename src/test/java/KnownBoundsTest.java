/** Promise 9, known: "How many changes with the given origin the replica knows; -1." */
public final class KnownBoundsTest {
    public static void main(String[] args) {
        from0To48();
        ownChangesAreKnownAtOnce();
        insertsAndDeletesCount();
        eachPairHasItsOwnCount();
        refusedCallsDontChangeIt();
        wrongReplicas();
        Check.end();
    }

    private static void from0To48() {
        TextReplica x = Starts.letters(2, 48);
        Check.due("known before", x.known(0, 2), 0);
        for (int i = 1; i <= 48; i++) {
            x.deliver(2, 0);
            Check.due("known", x.known(0, 2), i);
        }
        x.deliver(2, 0);
        Check.due("known when no more is to come", x.known(0, 2), 48);
        x.sync(0, 1);
        Check.due("known behind a sync", x.known(1, 2), 48);
    }

    /** Terms: "a change is known at its origin as soon as it is made" */
    private static void ownChangesAreKnownAtOnce() {
        for (int replica = 0; replica < 3; replica++) {
            TextReplica x = new TextReplica();
            for (int i = 1; i <= 48; i++) {
                x.insert(replica, 0, i);
                Check.due("known", x.known(replica, replica), i);
            }
            x.insert(replica, 0, 49);
            Check.due("known behind a refused insert", x.known(replica, replica), 48);
            Check.due("known elsewhere", x.known((replica + 1) % 3, replica), 0);
            Check.due("known of another origin", x.known(replica, (replica + 1) % 3), 0);
        }
    }

    private static void insertsAndDeletesCount() {
        TextReplica x = new TextReplica();
        for (int i = 1; i <= 24; i++) {
            x.insert(1, 0, i);
            Check.due("known behind an insert", x.known(1, 1), 2 * i - 1);
            x.delete(1, 0);
            Check.due("known behind a delete", x.known(1, 1), 2 * i);
        }
    }

    private static void eachPairHasItsOwnCount() {
        TextReplica x = Starts.spread();
        x.deliver(2, 0);
        int[] want = {3, 0, 1, 2, 2, 0, 0, 0, 1};
        for (int i = 0; i < 9; i++) {
            Check.due("known(" + i / 3 + ", " + i % 3 + ")", x.known(i / 3, i % 3), want[i]);
        }
        Starts.syncAll(x);
        for (int replica = 0; replica < 3; replica++) {
            Check.due("known(" + replica + ", 0)", x.known(replica, 0), 3);
            Check.due("known(" + replica + ", 1)", x.known(replica, 1), 2);
            Check.due("known(" + replica + ", 2)", x.known(replica, 2), 1);
        }
    }

    private static void refusedCallsDontChangeIt() {
        TextReplica x = Starts.spread();
        x.insert(1, 3, 9);
        x.delete(1, 2);
        x.deliver(1, 2);
        x.deliver(2, 2);
        x.sync(0, 3);
        x.sync(-1, 2);
        int[] want = {3, 0, 0, 2, 2, 0, 0, 0, 1};
        for (int i = 0; i < 9; i++) {
            Check.due("known(" + i / 3 + ", " + i % 3 + ")", x.known(i / 3, i % 3), want[i]);
        }
    }

    private static void wrongReplicas() {
        for (int wrong : Check.WRONG_REPLICAS) {
            for (int replica = 0; replica < 3; replica++) {
                int right = replica;
                Unmoved.due("known by " + wrong, () -> Starts.mixed(30), x -> x.known(wrong, right), -1);
                Unmoved.due("known of " + wrong, () -> Starts.mixed(30), x -> x.known(right, wrong), -1);
            }
            Unmoved.due("known by and of " + wrong, () -> Starts.mixed(30), x -> x.known(wrong, wrong), -1);
        }
    }
}
