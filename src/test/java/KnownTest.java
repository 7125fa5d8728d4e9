/** Promise 9: known. */
public final class KnownTest {
    public static void main(String[] args) {
        countsChangesByOrigin();
        refuses();
        Check.end();
    }

    private static void dueKnown(TextReplica x, int replica, int first, int second, int third) {
        Check.due("known(" + replica + ", 0)", x.known(replica, 0), first);
        Check.due("known(" + replica + ", 1)", x.known(replica, 1), second);
        Check.due("known(" + replica + ", 2)", x.known(replica, 2), third);
    }

    private static void countsChangesByOrigin() {
        TextReplica x = new TextReplica();
        x.insert(0, 0, 1);
        x.insert(0, 0, 2);
        x.delete(0, 0);
        x.insert(1, 0, 3);
        dueKnown(x, 0, 3, 0, 0);
        dueKnown(x, 1, 0, 1, 0);
        dueKnown(x, 2, 0, 0, 0);
        x.deliver(0, 1);
        dueKnown(x, 1, 1, 1, 0);
        x.insert(2, 0, 4);
        x.sync(1, 2);
        dueKnown(x, 2, 1, 1, 1);
        dueKnown(x, 0, 3, 0, 0);
        x.insert(1, 9, 4);
        x.delete(1, 9);
        dueKnown(x, 1, 1, 1, 0);
    }

    private static void refuses() {
        TextReplica x = new TextReplica();
        x.insert(0, 0, 1);
        x.sync(0, 1);
        x.sync(0, 2);
        for (int wrong : Check.WRONG_REPLICAS) {
            for (int right = 0; right < 3; right++) {
                Check.due("known by " + wrong, x.known(wrong, right), -1);
                Check.due("known from " + wrong, x.known(right, wrong), -1);
            }
            Check.due("known by and from " + wrong, x.known(wrong, wrong), -1);
        }
    }
}
