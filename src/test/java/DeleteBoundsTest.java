/** Promise 3, delete: the sentences that name a boundary. */
public final class DeleteBoundsTest {
    public static void main(String[] args) {
        theFirstAndTheLastLetterAreTaken();
        placesOutsideAreRefused();
        wrongReplicasAreRefused();
        anEmptyTextHasNone();
        anEmptiedTextHasNone();
        thePlaceIsThatOfTheShownText();
        thePlaceIsThatOfTheReplicasOwnText();
        aLetterIsTakenAwayOnceWhereThatIsKnown();
        aLetterMayBeTakenAwayAgainWhereThatIsNotKnown();
        theLetterMayBeAnyInt();
        the48thChangeIsTaken();
        the49thChangeIsRefused();
        answersTheLengthThen();
        Check.end();
    }

    private static void theFirstAndTheLastLetterAreTaken() {
        for (int count = 1; count < 48; count++) {
            TextReplica x = Starts.letters(1, count);
            Check.due("delete of the last of " + count, x.delete(1, count - 1), count - 1);
            Check.due("letter there", x.letter(1, count - 1), 0);
            Check.due("letter before", x.letter(1, count - 2), count - 1);
            TextReplica y = Starts.letters(1, count);
            Check.due("delete of the first of " + count, y.delete(1, 0), count - 1);
            Check.due("first letter", y.letter(1, 0), count == 1 ? 0 : 2);
        }
    }

    /** "Answers -1 and changes nothing if there is none": just outside the text, and far outside. */
    private static void placesOutsideAreRefused() {
        for (int count : new int[] {0, 1, 2, 3, 46, 47}) {
            refusedAt(count, -1);
            refusedAt(count, -2);
            refusedAt(count, count);
            refusedAt(count, count + 1);
            for (int place : Check.FAR_PLACES) {
                refusedAt(count, place);
            }
        }
    }

    private static void refusedAt(int count, int place) {
        Unmoved.due("delete at " + place + " of " + count, () -> Starts.shared(count), x -> x.delete(1, place), -1);
    }

    private static void wrongReplicasAreRefused() {
        for (int wrong : Check.WRONG_REPLICAS) {
            for (int place : new int[] {0, 2, 3}) {
                Unmoved.due("delete(" + wrong + ", " + place + ")", () -> Starts.shared(3),
                    x -> x.delete(wrong, place), -1);
            }
        }
    }

    private static void anEmptyTextHasNone() {
        Unmoved.due("delete on a new object", TextReplica::new, x -> x.delete(0, 0), -1);
        Unmoved.due("delete where nothing is known", () -> Starts.letters(0, 3), x -> x.delete(1, 0), -1);
    }

    private static TextReplica emptied() {
        TextReplica x = Starts.shared(2);
        x.delete(0, 0);
        x.delete(0, 0);
        return x;
    }

    private static void anEmptiedTextHasNone() {
        for (int place : new int[] {-1, 0, 1, 2}) {
            Unmoved.due("delete at " + place + " of an emptied text", DeleteBoundsTest::emptied,
                x -> x.delete(0, place), -1);
        }
    }

    private static TextReplica twoOfFiveShown() {
        TextReplica x = Starts.shared(5);
        x.delete(1, 4);
        x.delete(1, 2);
        x.delete(1, 0);
        return x;
    }

    private static void thePlaceIsThatOfTheShownText() {
        for (int place : new int[] {-1, 2, 3, 4, 5}) {
            Unmoved.due("delete at " + place + " of the two shown", DeleteBoundsTest::twoOfFiveShown,
                x -> x.delete(1, place), -1);
        }
        TextReplica x = twoOfFiveShown();
        Check.due("delete at 1 of the two shown", x.delete(1, 1), 1);
        Check.due("text", Check.text(x, 1), "2");
        Check.due("delete at 0 of the one shown", x.delete(1, 0), 0);
        Check.due("text", Check.text(x, 1), "");
    }

    private static void thePlaceIsThatOfTheReplicasOwnText() {
        Unmoved.due("delete at 2 of replica 1's two", Starts::spread, x -> x.delete(1, 2), -1);
        Unmoved.due("delete at 1 of replica 2's one", Starts::spread, x -> x.delete(2, 1), -1);
        Unmoved.due("delete at 3 of replica 0's three", Starts::spread, x -> x.delete(0, 3), -1);
        TextReplica x = Starts.spread();
        Check.due("delete at 2 of replica 0's three", x.delete(0, 2), 2);
        Check.due("delete at 1 of replica 1's two", x.delete(1, 1), 1);
        Check.due("delete at 0 of replica 2's one", x.delete(2, 0), 0);
        Check.due("state", Check.state(x),
            "[10 11] row 3 known 4 0 0; [10] row 3 known 2 3 0; [] row 1 known 0 0 2; ");
    }

    /** Terms: "without those that a delete that it knows takes away" */
    private static void aLetterIsTakenAwayOnceWhereThatIsKnown() {
        TextReplica x = Starts.shared(1);
        Check.due("delete", x.delete(0, 0), 0);
        Check.due("deliver of the delete", x.deliver(0, 1), 0);
        Check.due("delete where it is known", x.delete(1, 0), -1);
        Check.due("known", x.known(1, 1), 0);
    }

    private static void aLetterMayBeTakenAwayAgainWhereThatIsNotKnown() {
        TextReplica x = Starts.shared(2);
        Check.due("delete at 0", x.delete(0, 0), 1);
        Check.due("delete at 1", x.delete(1, 0), 1);
        Check.due("delete at 2", x.delete(2, 0), 1);
        Check.due("deliver", x.deliver(1, 0), 0);
        Check.due("state", Check.state(x),
            "[2] row 2 known 3 1 0; [2] row 2 known 2 1 0; [2] row 2 known 2 0 1; ");
        Starts.syncAll(x);
        Check.due("state", Check.state(x),
            "[2] row 2 known 3 1 1; [2] row 2 known 3 1 1; [2] row 2 known 3 1 1; ");
    }

    private static void theLetterMayBeAnyInt() {
        for (int letter : new int[] {0, -1, Integer.MAX_VALUE, Integer.MIN_VALUE}) {
            TextReplica x = new TextReplica();
            x.insert(0, 0, letter);
            x.insert(0, 1, letter);
            Check.due("delete of " + letter, x.delete(0, 0), 1);
            Check.due("text", Check.text(x, 0), "" + letter);
        }
    }

    private static void the48thChangeIsTaken() {
        for (int replica = 0; replica < 3; replica++) {
            TextReplica x = Starts.shared(47);
            Check.due("delete as 48th", x.delete(replica, 46), 46);
            Check.due("row", x.row(replica), 47);
        }
    }

    /** "or 48 changes have been made" */
    private static void the49thChangeIsRefused() {
        for (int replica = 0; replica < 3; replica++) {
            int r = replica;
            for (int place : new int[] {0, 1, 47, 48, -1}) {
                Unmoved.due("delete as 49th", () -> Starts.shared(48), x -> x.delete(r, place), -1);
            }
            Unmoved.due("delete as 49th", () -> Starts.mixed(48), x -> x.delete(r, 0), -1);
        }
    }

    /** "else the length of its text then" */
    private static void answersTheLengthThen() {
        TextReplica x = twoOfFiveShown();
        Check.due("delete where two of five are shown", x.delete(1, 0), 1);
        Check.due("delete where five are shown", x.delete(0, 0), 4);
        Check.due("delete where one is shown", x.delete(1, 0), 0);
    }
}
