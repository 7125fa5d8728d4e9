/** Promise 7: letter. */
public final class LetterTest {
    public static void main(String[] args) {
        tellsTheLetterAtThePlace();
        isZeroWhereThereIsNone();
        isZeroForWrongReplicas();
        Check.end();
    }

    private static TextReplica sample() {
        TextReplica x = new TextReplica();
        x.insert(1, 0, 11);
        x.insert(1, 1, -12);
        x.insert(1, 2, 13);
        x.insert(1, 3, 14);
        return x;
    }

    private static void tellsTheLetterAtThePlace() {
        TextReplica x = sample();
        Check.due("letter(1, 0)", x.letter(1, 0), 11);
        Check.due("letter(1, 1)", x.letter(1, 1), -12);
        Check.due("letter(1, 3)", x.letter(1, 3), 14);
        x.sync(1, 2);
        x.delete(1, 1);
        Check.due("letter(1, 1) behind a delete", x.letter(1, 1), 13);
        Check.due("letter(1, 2) behind a delete", x.letter(1, 2), 14);
        Check.due("letter(2, 1) where the delete isn't known", x.letter(2, 1), -12);
    }

    private static void isZeroWhereThereIsNone() {
        TextReplica x = sample();
        x.delete(1, 3);
        for (int place : new int[] {-1, 3, 4, 48, Integer.MIN_VALUE, Integer.MAX_VALUE}) {
            Check.due("letter at " + place, x.letter(1, place), 0);
        }
        Check.due("letter of an empty text", x.letter(0, 0), 0);
    }

    private static void isZeroForWrongReplicas() {
        TextReplica x = sample();
        x.sync(1, 0);
        x.sync(1, 2);
        for (int replica : Check.WRONG_REPLICAS) {
            Check.due("letter of replica " + replica, x.letter(replica, 0), 0);
            Check.due("letter of replica " + replica, x.letter(replica, -1), 0);
        }
    }
}
