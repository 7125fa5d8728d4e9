/** Promise 2, insert: the sentences that name a boundary. */
public final class InsertBoundsTest {
    public static void main(String[] args) {
        placeZeroHasNoAnchor();
        placeZeroOfAnEmptiedTextHasNoAnchor();
        placeOneHasTheFirstLetterAsAnchor();
        theLengthIsTheLastPlace();
        placesOutsideAreRefused();
        wrongReplicasAreRefused();
        theLengthIsThatOfTheShownText();
        theLengthIsThatOfTheReplicasOwnText();
        the48thChangeIsTaken();
        the49thChangeIsRefused();
        answersTheLengthThen();
        theLetterMayBeAnyInt();
        theLongestChain();
        theMostNeighbours();
        theMostNeighboursBehindAnAnchor();
        Check.end();
    }

    /** "or, if place is 0, has no anchor": so it goes even to a replica that knows none of the letters around. */
    private static void placeZeroHasNoAnchor() {
        for (int count : new int[] {0, 1, 2, 20}) {
            TextReplica x = Starts.letters(0, count);
            x.sync(0, 1);
            Check.due("insert at 0 of " + count, x.insert(1, 0, 90), count + 1);
            Check.due("first letter", x.letter(1, 0), 90);
            Check.due("deliver", x.deliver(1, 2), 0);
            Check.due("text", Check.text(x, 2), "90");
        }
    }

    private static void placeZeroOfAnEmptiedTextHasNoAnchor() {
        TextReplica x = Starts.letters(0, 2);
        x.sync(0, 1);
        x.delete(0, 0);
        x.delete(0, 0);
        x.sync(0, 1);
        Check.due("insert into an emptied text", x.insert(1, 0, 90), 1);
        Check.due("deliver", x.deliver(1, 2), 0);
        Check.due("text", Check.text(x, 2), "90");
    }

    /** "right behind the letter that stands at place - 1 in its text (that letter's insert is the anchor)" */
    private static void placeOneHasTheFirstLetterAsAnchor() {
        for (int count : new int[] {1, 2, 20}) {
            TextReplica x = Starts.letters(0, count);
            x.sync(0, 1);
            Check.due("insert at 1 of " + count, x.insert(1, 1, 90), count + 1);
            Check.due("first letter", x.letter(1, 0), 1);
            Check.due("second letter", x.letter(1, 1), 90);
            Check.due("deliver without the anchor", x.deliver(1, 2), -2);
            Check.due("deliver of the anchor", x.deliver(0, 2), 0);
            Check.due("deliver with the anchor", x.deliver(1, 2), 0);
            Check.due("text", Check.text(x, 2), "1 90");
        }
    }

    /** "-1 .. if place is not from 0 to the length of its text": the length itself is taken. */
    private static void theLengthIsTheLastPlace() {
        for (int count = 0; count < 48; count++) {
            TextReplica x = Starts.letters(2, count);
            Check.due("insert at the length " + count, x.insert(2, count, 90), count + 1);
            Check.due("last letter", x.letter(2, count), 90);
            Check.due("letter behind", x.letter(2, count + 1), 0);
        }
    }

    private static void placesOutsideAreRefused() {
        for (int count : new int[] {0, 1, 2, 3, 46, 47}) {
            refusedAt(count, -1);
            refusedAt(count, -2);
            refusedAt(count, count + 1);
            refusedAt(count, count + 2);
            for (int place : Check.FAR_PLACES) {
                refusedAt(count, place);
            }
        }
    }

    private static void refusedAt(int count, int place) {
        Unmoved.due("insert at " + place + " of " + count, () -> Starts.shared(count), x -> x.insert(1, place, 90), -1);
    }

    private static void wrongReplicasAreRefused() {
        for (int wrong : Check.WRONG_REPLICAS) {
            for (int place : new int[] {0, 3, 4}) {
                Unmoved.due("insert(" + wrong + ", " + place + ", 90)", () -> Starts.shared(3),
                    x -> x.insert(wrong, place, 90), -1);
            }
        }
    }

    private static TextReplica twoOfFiveShown() {
        TextReplica x = Starts.shared(5);
        x.delete(1, 4);
        x.delete(1, 2);
        x.delete(1, 0);
        return x;
    }

    private static void theLengthIsThatOfTheShownText() {
        for (int place : new int[] {-1, 3, 4, 5, 6}) {
            Unmoved.due("insert at " + place + " of the two shown", InsertBoundsTest::twoOfFiveShown,
                x -> x.insert(1, place, 90), -1);
        }
        TextReplica x = twoOfFiveShown();
        Check.due("insert at 2 of the two shown", x.insert(1, 2, 90), 3);
        Check.due("text", Check.text(x, 1), "2 4 90");
        TextReplica y = Starts.letters(0, 1);
        y.delete(0, 0);
        Check.due("insert at 1 of an emptied text", y.insert(0, 1, 90), -1);
        Check.due("insert at 0 of an emptied text", y.insert(0, 0, 90), 1);
    }

    private static void theLengthIsThatOfTheReplicasOwnText() {
        Unmoved.due("insert at 3 of replica 1's two", Starts::spread, x -> x.insert(1, 3, 90), -1);
        Unmoved.due("insert at 2 of replica 2's one", Starts::spread, x -> x.insert(2, 2, 90), -1);
        Unmoved.due("insert at 4 of replica 0's three", Starts::spread, x -> x.insert(0, 4, 90), -1);
        TextReplica x = Starts.spread();
        Check.due("insert at 3 of replica 0's three", x.insert(0, 3, 90), 4);
        Check.due("insert at 2 of replica 1's two", x.insert(1, 2, 91), 3);
        Check.due("insert at 1 of replica 2's one", x.insert(2, 1, 92), 2);
        Check.due("state", Check.state(x),
            "[10 11 12 90] row 4 known 4 0 0; [10 20 91] row 4 known 2 3 0; [30 92] row 2 known 0 0 2; ");
    }

    private static void the48thChangeIsTaken() {
        for (int replica = 0; replica < 3; replica++) {
            TextReplica x = Starts.letters(0, 47);
            x.sync(0, 1);
            x.sync(0, 2);
            Check.due("insert as 48th", x.insert(replica, 47, 90), 48);
            Check.due("last letter", x.letter(replica, 47), 90);
        }
    }

    /** "or 48 changes have been made": at each replica, also where the text is empty. */
    private static void the49thChangeIsRefused() {
        for (int replica = 0; replica < 3; replica++) {
            int r = replica;
            for (int place : new int[] {0, 1, 48, 49, -1}) {
                Unmoved.due("insert as 49th", () -> Starts.shared(48), x -> x.insert(r, place, 90), -1);
            }
            Unmoved.due("insert as 49th", () -> Starts.letters(0, 48), x -> x.insert(r, 0, 90), -1);
            Unmoved.due("insert as 49th", () -> Starts.mixed(48), x -> x.insert(r, 0, 90), -1);
        }
    }

    /** "else the length of its text then": of the text of that replica, with the letter and without deleted ones. */
    private static void answersTheLengthThen() {
        TextReplica x = twoOfFiveShown();
        Check.due("insert where two of five are shown", x.insert(1, 1, 90), 3);
        Check.due("insert where five are shown", x.insert(0, 1, 90), 6);
        TextReplica y = new TextReplica();
        Check.due("first insert at 0", y.insert(0, 0, 1), 1);
        Check.due("first insert at 1", y.insert(1, 0, 1), 1);
        Check.due("first insert at 2", y.insert(2, 0, 1), 1);
        Check.due("second insert at 1", y.insert(1, 0, 1), 2);
    }

    private static void theLetterMayBeAnyInt() {
        for (int letter : new int[] {0, 1, -1, -2, 48, 255, 256, 65536, Integer.MAX_VALUE, Integer.MIN_VALUE}) {
            TextReplica x = new TextReplica();
            Check.due("insert of " + letter, x.insert(0, 0, letter), 1);
            Check.due("insert of it once more", x.insert(0, 1, letter), 2);
            x.sync(0, 1);
            Check.due("letter", x.letter(1, 0), letter);
            Check.due("letter", x.letter(1, 1), letter);
        }
    }

    /** Terms: "each followed in the same way by those that have it as anchor, and so on", 48 deep. */
    private static void theLongestChain() {
        TextReplica x = new TextReplica();
        for (int i = 0; i < 48; i++) {
            int writer = i % 3;
            x.sync((i + 2) % 3, writer);
            Check.due("insert " + i, x.insert(writer, i, i + 1), i + 1);
        }
        Starts.syncAll(x);
        for (int place = 0; place < 48; place++) {
            Check.due("letter at " + place, x.letter(0, place), place + 1);
        }
        Check.due("alike", x.alike(0, 1) + x.alike(1, 2), 2);
    }

    /** Terms: "first come the inserts without anchor, the one with the greatest stamp first", all 48 of them. */
    private static void theMostNeighbours() {
        TextReplica x = new TextReplica();
        for (int i = 0; i < 48; i++) {
            x.insert(i % 3, 0, i + 1);
        }
        Starts.syncAll(x);
        for (int place = 0; place < 48; place++) {
            Check.due("letter at " + place, x.letter(1, place), 48 - place);
        }
        Check.due("alike", x.alike(0, 1) + x.alike(1, 2), 2);
    }

    private static void theMostNeighboursBehindAnAnchor() {
        TextReplica x = Starts.shared(2);
        for (int i = 0; i < 46; i++) {
            x.insert(i % 3, 1, i + 11);
        }
        Starts.syncAll(x);
        Check.due("the anchor", x.letter(1, 0), 1);
        for (int place = 1; place <= 46; place++) {
            Check.due("letter at " + place, x.letter(1, place), 57 - place);
        }
        // The letter that stood there first has the least stamp.
        Check.due("last letter", x.letter(1, 47), 2);
        Check.due("alike", x.alike(0, 1) + x.alike(1, 2), 2);
    }
}
