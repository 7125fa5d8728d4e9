/** Promise 8: row. */
public final class RowTest {
    public static void main(String[] args) {
        countsKnownInserts();
        refuses();
        Check.end();
    }

    private static void countsKnownInserts() {
        TextReplica x = new TextReplica();
        x.insert(0, 0, 1);
        x.insert(0, 0, 2);
        x.insert(1, 0, 3);
        Check.due("row(0)", x.row(0), 2);
        Check.due("row(1)", x.row(1), 1);
        Check.due("row(2)", x.row(2), 0);
        x.delete(0, 0);
        x.delete(0, 0);
        Check.due("row(0) with deleted letters", x.row(0), 2);
        x.deliver(0, 2);
        Check.due("row(2) after deliver", x.row(2), 1);
        x.sync(0, 1);
        Check.due("row(1) after sync", x.row(1), 3);
        for (int i = 0; i < 43; i++) {
            x.insert(1, 0, i);
        }
        Check.due("row(1) when full", x.row(1), 46);
        Check.due("insert when full", x.insert(1, 0, 9), -1);
        Check.due("row(1) after a refused insert", x.row(1), 46);
    }

    private static void refuses() {
        TextReplica x = new TextReplica();
        x.insert(2, 0, 1);
        for (int replica : Check.WRONG_REPLICAS) {
            Check.due("row of " + replica, x.row(replica), -1);
        }
    }
}
