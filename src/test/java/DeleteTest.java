/** Promise 3: delete. */
public final class DeleteTest {
    public static void main(String[] args) {
        takesAwayTheLetterAtThePlace();
        isKnownAtItsOriginAlone();
        refusesWrongPlaces();
        refusesWrongReplicas();
        refusesThe49thChange();
        twoDeletesOfOneLetterTakeAwayOne();
        Check.end();
    }

    private static TextReplica withLetters(int count) {
        TextReplica x = new TextReplica();
        for (int i = 0; i < count; i++) {
            x.insert(0, i, i + 1);
        }
        return x;
    }

    private static void takesAwayTheLetterAtThePlace() {
        TextReplica x = withLetters(5);
        Check.due("delete(0, 1)", x.delete(0, 1), 4);
        Check.due("text", Check.text(x, 0), "1 3 4 5");
        Check.due("delete(0, 1)", x.delete(0, 1), 3);
        Check.due("text", Check.text(x, 0), "1 4 5");
        Check.due("delete(0, 2)", x.delete(0, 2), 2);
        Check.due("delete(0, 0)", x.delete(0, 0), 1);
        Check.due("text", Check.text(x, 0), "4");
        Check.due("delete(0, 0)", x.delete(0, 0), 0);
        Check.due("delete(0, 0)", x.delete(0, 0), -1);
        Check.due("known", x.known(0, 0), 10);
        Check.due("row", x.row(0), 5);
    }

    private static void isKnownAtItsOriginAlone() {
        TextReplica x = withLetters(2);
        x.sync(0, 1);
        x.delete(1, 0);
        Check.due("state", Check.state(x), "[1 2] row 2 known 2 0 0; [2] row 2 known 2 1 0; [] row 0 known 0 0 0; ");
    }

    private static void refusesWrongPlaces() {
        TextReplica x = withLetters(3);
        x.delete(0, 0);
        String before = Check.state(x);
        for (int place : new int[] {-1, 2, 3, Integer.MIN_VALUE, Integer.MAX_VALUE}) {
            Check.due("delete at " + place, x.delete(0, place), -1);
        }
        Check.due("delete in an empty text", x.delete(1, 0), -1);
        Check.due("state", Check.state(x), before);
    }

    private static void refusesWrongReplicas() {
        TextReplica x = withLetters(3);
        String before = Check.state(x);
        for (int replica : Check.WRONG_REPLICAS) {
            Check.due("delete at replica " + replica, x.delete(replica, 0), -1);
        }
        Check.due("state", Check.state(x), before);
    }

    private static void refusesThe49thChange() {
        TextReplica x = withLetters(46);
        x.sync(0, 1);
        Check.due("delete as 47th", x.delete(0, 45), 45);
        Check.due("delete as 48th", x.delete(1, 0), 45);
        String before = Check.state(x);
        Check.due("delete as 49th", x.delete(0, 0), -1);
        Check.due("delete as 49th", x.delete(1, 0), -1);
        Check.due("state", Check.state(x), before);
    }

    private static void twoDeletesOfOneLetterTakeAwayOne() {
        TextReplica x = withLetters(3);
        x.sync(0, 1);
        x.sync(0, 2);
        Check.due("delete(0, 1)", x.delete(0, 1), 2);
        Check.due("delete(1, 1)", x.delete(1, 1), 2);
        x.sync(1, 0);
        x.sync(1, 2);
        Check.due("state", Check.state(x),
            "[1 3] row 3 known 4 1 0; [1 3] row 3 known 3 1 0; [1 3] row 3 known 3 1 0; ");
    }
}
