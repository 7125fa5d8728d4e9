/** Promise 10: alike. */
public final class AlikeTest {
    public static void main(String[] args) {
        comparesLengths();
        comparesLetters();
        comparesTheFirstLetter();
        comparesLettersNotChanges();
        deletedLettersDontCount();
        refuses();
        Check.end();
    }

    private static void dueAlike(TextReplica x, int a, int b, int want) {
        Check.due("alike(" + a + ", " + b + ")", x.alike(a, b), want);
        Check.due("alike(" + b + ", " + a + ")", x.alike(b, a), want);
    }

    private static void comparesLengths() {
        TextReplica x = new TextReplica();
        dueAlike(x, 0, 1, 1);
        // The letter 0 is also the answer for no letter.
        x.insert(0, 0, 0);
        dueAlike(x, 0, 1, 0);
        dueAlike(x, 1, 2, 1);
        dueAlike(x, 0, 0, 1);
        x.sync(0, 1);
        dueAlike(x, 0, 1, 1);
        x.insert(1, 1, 0);
        dueAlike(x, 0, 1, 0);
    }

    private static void comparesLetters() {
        TextReplica x = new TextReplica();
        x.insert(0, 0, 1);
        x.insert(0, 1, 2);
        x.insert(0, 2, 3);
        x.insert(1, 0, 1);
        x.insert(1, 1, 2);
        x.insert(1, 2, 4);
        x.insert(2, 0, 2);
        x.insert(2, 1, 1);
        x.insert(2, 2, 3);
        dueAlike(x, 0, 1, 0);
        dueAlike(x, 0, 2, 0);
        dueAlike(x, 1, 2, 0);
        dueAlike(x, 2, 2, 1);
    }

    private static void comparesTheFirstLetter() {
        TextReplica x = new TextReplica();
        x.insert(0, 0, 1);
        x.insert(0, 1, 5);
        x.insert(1, 0, 2);
        x.insert(1, 1, 5);
        dueAlike(x, 0, 1, 0);
    }

    private static void comparesLettersNotChanges() {
        TextReplica x = new TextReplica();
        x.insert(0, 0, 7);
        x.insert(0, 1, 8);
        x.insert(1, 0, 8);
        x.insert(1, 0, 7);
        dueAlike(x, 0, 1, 1);
        dueAlike(x, 0, 2, 0);
    }

    private static void deletedLettersDontCount() {
        TextReplica x = new TextReplica();
        x.insert(0, 0, 1);
        x.insert(0, 1, 2);
        x.sync(0, 1);
        x.delete(1, 0);
        dueAlike(x, 0, 1, 0);
        x.insert(2, 0, 2);
        dueAlike(x, 1, 2, 1);
        x.delete(0, 0);
        dueAlike(x, 0, 1, 1);
    }

    private static void refuses() {
        TextReplica x = new TextReplica();
        for (int wrong : Check.WRONG_REPLICAS) {
            for (int right = 0; right < 3; right++) {
                dueAlike(x, wrong, right, -1);
            }
            dueAlike(x, wrong, wrong, -1);
        }
    }
}
