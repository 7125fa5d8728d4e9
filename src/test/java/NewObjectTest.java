/** Promise 1: a new object. */
public final class NewObjectTest {
    public static void main(String[] args) {
        noChangeIsMade();
        objectsShareNothing();
        Check.end();
    }

    private static void noChangeIsMade() {
        TextReplica x = new TextReplica();
        for (int a = 0; a < 3; a++) {
            Check.due("length", x.length(a), 0);
            Check.due("row", x.row(a), 0);
            Check.due("letter", x.letter(a, 0), 0);
            Check.due("delete", x.delete(a, 0), -1);
            for (int b = 0; b < 3; b++) {
                Check.due("known", x.known(a, b), 0);
                Check.due("alike", x.alike(a, b), 1);
                Check.due("deliver", x.deliver(a, b), -1);
                Check.due("sync", x.sync(a, b), 0);
            }
        }
    }

    private static void objectsShareNothing() {
        TextReplica used = new TextReplica();
        for (int i = 0; i < 48; i++) {
            used.insert(i % 3, 0, i);
        }
        TextReplica x = new TextReplica();
        Check.due("state of a new object", Check.state(x),
            "[] row 0 known 0 0 0; [] row 0 known 0 0 0; [] row 0 known 0 0 0; ");
        Check.due("insert into a new object", x.insert(0, 0, 1), 1);
        Check.due("length of the used object", used.length(0), 16);
    }
}
