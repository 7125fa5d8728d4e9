/** Promise 5, sync: the sentences that name a boundary. */
public final class SyncBoundsTest {
    public static void main(String[] args) {
        fromOneThatKnowsNothing();
        toOneThatKnowsNothing();
        withItself();
        whereNothingIsMissing();
        whereEachKnowsWhatTheOtherDoesnt();
        ofOneChangeAndOfAll48();
        ofNoMoreThanFromKnows();
        toAloneIsChanged();
        whatWaitsForDeliverComes();
        wrongReplicas();
        aFullObjectSyncs();
        Check.end();
    }

    /** "gets to know all changes that the replica from knows": none, if it knows none. */
    private static void fromOneThatKnowsNothing() {
        Unmoved.due("sync on a new object", TextReplica::new, x -> x.sync(0, 1), 0);
        Unmoved.due("sync from one that knows nothing", () -> Starts.letters(0, 3), x -> x.sync(1, 0), 0);
        Unmoved.due("sync between two that know nothing", () -> Starts.letters(0, 3), x -> x.sync(1, 2), 0);
    }

    private static void toOneThatKnowsNothing() {
        TextReplica x = Starts.spread();
        TextReplica y = Starts.letters(1, 3);
        Check.due("sync to one that knows nothing", y.sync(1, 0), 0);
        Check.due("state", Check.state(y),
            "[1 2 3] row 3 known 0 3 0; [1 2 3] row 3 known 0 3 0; [] row 0 known 0 0 0; ");
        Check.due("sync to one that knows one", x.sync(1, 2), 0);
        Check.due("state", Check.state(x),
            "[10 11 12] row 3 known 3 0 0; [10 20] row 3 known 2 2 0; [30 10 20] row 4 known 2 2 1; ");
    }

    private static void withItself() {
        for (int replica = 0; replica < 3; replica++) {
            int r = replica;
            Unmoved.due("sync with itself", TextReplica::new, x -> x.sync(r, r), 0);
            Unmoved.due("sync with itself", Starts::spread, x -> x.sync(r, r), 0);
            Unmoved.due("sync with itself when full", () -> Starts.mixed(48), x -> x.sync(r, r), 0);
        }
    }

    private static void whereNothingIsMissing() {
        Unmoved.due("sync once more", () -> Starts.shared(3), x -> x.sync(0, 1), 0);
        Unmoved.due("sync back", () -> Starts.shared(3), x -> x.sync(1, 0), 0);
        Unmoved.due("sync from one that knows less", SyncBoundsTest::oneKnowsMore, x -> x.sync(0, 1), 0);
    }

    private static TextReplica oneKnowsMore() {
        TextReplica x = Starts.shared(3);
        x.insert(1, 1, 90);
        x.delete(1, 0);
        return x;
    }

    private static void whereEachKnowsWhatTheOtherDoesnt() {
        TextReplica x = Starts.spread();
        Check.due("sync(0, 1)", x.sync(0, 1), 0);
        Check.due("state", Check.state(x),
            "[10 11 12] row 3 known 3 0 0; [10 20 12] row 4 known 3 2 0; [30] row 1 known 0 0 1; ");
        Check.due("sync(2, 1)", x.sync(2, 1), 0);
        Check.due("state", Check.state(x),
            "[10 11 12] row 3 known 3 0 0; [30 10 20 12] row 5 known 3 2 1; [30] row 1 known 0 0 1; ");
        Check.due("sync(1, 0)", x.sync(1, 0), 0);
        Check.due("sync(0, 2)", x.sync(0, 2), 0);
        for (int replica = 0; replica < 3; replica++) {
            Check.due("text of " + replica, Check.text(x, replica), "30 10 20 12");
        }
    }

    private static void ofOneChangeAndOfAll48() {
        for (int count : new int[] {1, 2, 47, 48}) {
            TextReplica x = Starts.letters(2, count);
            Check.due("sync of " + count, x.sync(2, 0), 0);
            Check.due("known", x.known(0, 2), count);
            Check.due("length", x.length(0), count);
            Check.due("last letter", x.letter(0, count - 1), count);
            Check.due("alike", x.alike(0, 2), 1);
        }
    }

    /** What from doesn't know doesn't come, though it was made. */
    private static void ofNoMoreThanFromKnows() {
        TextReplica x = Starts.letters(0, 3);
        x.deliver(0, 1);
        x.deliver(0, 1);
        Check.due("sync", x.sync(1, 2), 0);
        Check.due("known", x.known(2, 0), 2);
        Check.due("text", Check.text(x, 2), "1 2");
    }

    private static void toAloneIsChanged() {
        TextReplica x = Starts.spread();
        x.sync(1, 2);
        Check.due("known to from", x.known(1, 2), 0);
        Check.due("known to the third", x.known(0, 2) + x.known(0, 1), 0);
        Check.due("text of from", Check.text(x, 1), "10 20");
        Check.due("text of the third", Check.text(x, 0), "10 11 12");
    }

    private static void whatWaitsForDeliverComes() {
        TextReplica x = Starts.spread();
        Check.due("deliver without the anchor", x.deliver(1, 2), -2);
        Check.due("sync", x.sync(1, 2), 0);
        Check.due("deliver of no more", x.deliver(1, 2), -1);
        Check.due("text", Check.text(x, 2), "30 10 20");
    }

    /** "Answers 0, or -1." */
    private static void wrongReplicas() {
        for (int wrong : Check.WRONG_REPLICAS) {
            for (int replica = 0; replica < 3; replica++) {
                int right = replica;
                Unmoved.due("sync from " + wrong, Starts::spread, x -> x.sync(wrong, right), -1);
                Unmoved.due("sync to " + wrong, Starts::spread, x -> x.sync(right, wrong), -1);
            }
            Unmoved.due("sync from and to " + wrong, Starts::spread, x -> x.sync(wrong, wrong), -1);
        }
    }

    private static void aFullObjectSyncs() {
        TextReplica x = Starts.mixed(48);
        Starts.syncAll(x);
        for (int replica = 0; replica < 3; replica++) {
            int all = x.known(replica, 0) + x.known(replica, 1) + x.known(replica, 2);
            Check.due("all that replica " + replica + " knows", all, 48);
            Check.due("alike", x.alike(replica, 0), 1);
        }
    }
}
