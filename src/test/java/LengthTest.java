/** Promise 6: length. */
public final class LengthTest {
    public static void main(String[] args) {
        countsShownLetters();
        goesUpTo48();
        refuses();
        Check.end();
    }

    private static void countsShownLetters() {
        TextReplica x = new TextReplica();
        x.insert(0, 0, 0);
        x.insert(0, 0, 5);
        x.insert(1, 0, 6);
        Check.due("length(0)", x.length(0), 2);
        Check.due("length(1)", x.length(1), 1);
        Check.due("length(2)", x.length(2), 0);
        x.sync(0, 1);
        Check.due("length(1) after sync", x.length(1), 3);
        x.delete(1, 0);
        Check.due("length(1) after delete", x.length(1), 2);
        Check.due("length(0) before it knows the delete", x.length(0), 2);
        x.sync(1, 0);
        Check.due("length(0) when it knows the delete", x.length(0), 2);
        x.delete(0, 0);
        x.delete(0, 0);
        Check.due("length(0) of an emptied text", x.length(0), 0);
    }

    private static void goesUpTo48() {
        TextReplica x = new TextReplica();
        for (int i = 0; i < 48; i++) {
            x.insert(2, i, i);
        }
        Check.due("length(2)", x.length(2), 48);
        x.sync(2, 0);
        Check.due("length(0)", x.length(0), 48);
    }

    private static void refuses() {
        TextReplica x = new TextReplica();
        x.insert(0, 0, 1);
        for (int replica : Check.WRONG_REPLICAS) {
            Check.due("length of " + replica, x.length(replica), -1);
        }
    }
}
