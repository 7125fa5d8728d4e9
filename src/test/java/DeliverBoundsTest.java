/** Promise 4, deliver: the sentences that name a boundary. */
public final class DeliverBoundsTest {
    public static void main(String[] args) {
        theLeastNumberThatIsMissing();
        theLeastNumberBehindASync();
        noneWhereNoneWasMade();
        noneWhereAllAreKnown();
        noneFromOneselfToOneself();
        noneOfOthersChanges();
        wrongReplicas();
        anUnknownAnchor();
        anUnknownLettersDelete();
        theAnchorComesByDeliver();
        theAnchorComesBySync();
        theLetterComesAndThenItsDelete();
        anAnchorFarBack();
        anAnchorTakenAwayIsKnown();
        aLetterTakenAwayIsKnown();
        noAnchorIsNeverMissing();
        theReceiversOwnLetterIsNeverMissing();
        whatWaitsHoldsBackWhatFollows();
        aFullObjectDelivers();
        Check.end();
    }

    /** "the change of the origin from that it doesn't know and that has the least number" */
    private static void theLeastNumberThatIsMissing() {
        TextReplica x = Starts.letters(1, 48);
        for (int i = 1; i <= 48; i++) {
            Check.due("deliver " + i, x.deliver(1, 0), 0);
            Check.due("known", x.known(0, 1), i);
            Check.due("length", x.length(0), i);
            Check.due("last letter", x.letter(0, i - 1), i);
        }
        Check.due("deliver 49", x.deliver(1, 0), -1);
        Check.due("deliver 50", x.deliver(1, 0), -1);
        Check.due("known", x.known(0, 1), 48);
    }

    private static void theLeastNumberBehindASync() {
        TextReplica x = Starts.letters(1, 2);
        x.sync(1, 0);
        x.insert(1, 2, 3);
        x.insert(1, 3, 4);
        Check.due("deliver 3", x.deliver(1, 0), 0);
        Check.due("text", Check.text(x, 0), "1 2 3");
        Check.due("deliver 1", x.deliver(1, 2), 0);
        Check.due("text", Check.text(x, 2), "1");
    }

    /** "-1 if refused or there is none" */
    private static void noneWhereNoneWasMade() {
        Unmoved.due("deliver on a new object", TextReplica::new, x -> x.deliver(0, 1), -1);
        Unmoved.due("deliver from one that made none", () -> Starts.letters(0, 3), x -> x.deliver(1, 0), -1);
        Unmoved.due("deliver from one that made none", () -> Starts.letters(0, 3), x -> x.deliver(1, 2), -1);
    }

    private static void noneWhereAllAreKnown() {
        for (int count : new int[] {1, 2, 47, 48}) {
            Unmoved.due("deliver behind a sync of " + count, () -> Starts.shared(count), x -> x.deliver(0, 2), -1);
        }
        TextReplica x = Starts.letters(0, 1);
        Check.due("deliver of the only one", x.deliver(0, 1), 0);
        Check.due("deliver behind it", x.deliver(0, 1), -1);
        x.delete(0, 0);
        Check.due("deliver of a second", x.deliver(0, 1), 0);
        Check.due("deliver behind it", x.deliver(0, 1), -1);
    }

    private static void noneFromOneselfToOneself() {
        for (int replica = 0; replica < 3; replica++) {
            int r = replica;
            Unmoved.due("deliver to itself", Starts::spread, x -> x.deliver(r, r), -1);
            Unmoved.due("deliver to itself when full", () -> Starts.mixed(48), x -> x.deliver(r, r), -1);
        }
    }

    /** It is the origin's changes that come, not what else it knows. */
    private static void noneOfOthersChanges() {
        Unmoved.due("deliver from one that only knows", DeliverBoundsTest::knownAt1, x -> x.deliver(1, 2), -1);
    }

    private static TextReplica knownAt1() {
        TextReplica x = Starts.letters(0, 3);
        x.sync(0, 1);
        return x;
    }

    private static void wrongReplicas() {
        for (int wrong : Check.WRONG_REPLICAS) {
            Unmoved.due("deliver from " + wrong, Starts::spread, x -> x.deliver(wrong, 2), -1);
            Unmoved.due("deliver to " + wrong, Starts::spread, x -> x.deliver(1, wrong), -1);
            Unmoved.due("deliver from and to " + wrong, Starts::spread, x -> x.deliver(wrong, wrong), -1);
        }
    }

    /** "-2, and changes nothing, if that is an insert whose anchor it doesn't know" */
    private static void anUnknownAnchor() {
        Unmoved.due("deliver without the anchor", Starts::spread, x -> x.deliver(1, 2), -2);
        TextReplica x = Starts.spread();
        String before = Check.state(x);
        for (int i = 0; i < 60; i++) {
            Check.due("deliver without the anchor, again", x.deliver(1, 2), -2);
        }
        Check.due("state", Check.state(x), before);
    }

    /** "or a delete whose letter's insert it doesn't know" */
    private static void anUnknownLettersDelete() {
        Unmoved.due("deliver without the letter", Starts::deleteWaits, x -> x.deliver(1, 2), -2);
        Unmoved.due("deliver of a first change that deletes", DeliverBoundsTest::onlyADelete, x -> x.deliver(1, 2), -2);
        TextReplica x = Starts.deleteWaits();
        String before = Check.state(x);
        for (int i = 0; i < 60; i++) {
            Check.due("deliver without the letter, again", x.deliver(1, 2), -2);
        }
        Check.due("state", Check.state(x), before);
    }

    private static TextReplica onlyADelete() {
        TextReplica x = knownAt1();
        x.delete(1, 1);
        return x;
    }

    private static void theAnchorComesByDeliver() {
        TextReplica x = Starts.spread();
        Check.due("deliver without the anchor", x.deliver(1, 2), -2);
        Check.due("deliver of the anchor", x.deliver(0, 2), 0);
        Check.due("deliver with the anchor", x.deliver(1, 2), 0);
        Check.due("text", Check.text(x, 2), "30 10 20");
    }

    private static void theAnchorComesBySync() {
        TextReplica x = Starts.spread();
        Check.due("deliver without the anchor", x.deliver(1, 2), -2);
        Check.due("sync that brings the anchor", x.sync(0, 2), 0);
        Check.due("deliver with the anchor", x.deliver(1, 2), 0);
        Check.due("text", Check.text(x, 2), "30 10 20 11 12");
    }

    private static void theLetterComesAndThenItsDelete() {
        TextReplica x = Starts.deleteWaits();
        Check.due("deliver without the letter", x.deliver(1, 2), -2);
        Check.due("deliver of the letter", x.deliver(0, 2), 0);
        Check.due("text", Check.text(x, 2), "30 10 20 11");
        Check.due("deliver of the delete", x.deliver(1, 2), 0);
        Check.due("text", Check.text(x, 2), "30 10 20");
        Check.due("deliver of no more", x.deliver(1, 2), -1);
    }

    /** One short of the anchor is still without it. */
    private static void anAnchorFarBack() {
        TextReplica x = Starts.letters(0, 40);
        x.sync(0, 1);
        x.insert(1, 40, 90);
        for (int i = 1; i <= 40; i++) {
            Check.due("deliver before change " + i, x.deliver(1, 2), -2);
            Check.due("deliver of change " + i, x.deliver(0, 2), 0);
        }
        Check.due("deliver with the anchor", x.deliver(1, 2), 0);
        Check.due("last letter", x.letter(2, 40), 90);
    }

    private static void anAnchorTakenAwayIsKnown() {
        TextReplica x = Starts.shared(1);
        x.insert(1, 1, 90);
        Check.due("delete of the anchor", x.delete(2, 0), 0);
        Check.due("deliver behind an anchor taken away", x.deliver(1, 2), 0);
        Check.due("text", Check.text(x, 2), "90");
    }

    private static void aLetterTakenAwayIsKnown() {
        TextReplica x = Starts.shared(1);
        x.delete(1, 0);
        Check.due("delete of the same letter", x.delete(2, 0), 0);
        Check.due("deliver of the other delete", x.deliver(1, 2), 0);
        Check.due("known", x.known(2, 1), 1);
        Check.due("length", x.length(2), 0);
    }

    private static void noAnchorIsNeverMissing() {
        TextReplica x = Starts.letters(0, 20);
        x.sync(0, 1);
        x.insert(1, 0, 90);
        x.insert(1, 0, 91);
        Check.due("deliver of an insert without anchor", x.deliver(1, 2), 0);
        Check.due("deliver of another", x.deliver(1, 2), 0);
        Check.due("text", Check.text(x, 2), "91 90");
    }

    private static void theReceiversOwnLetterIsNeverMissing() {
        TextReplica x = Starts.letters(2, 1);
        x.sync(2, 1);
        x.insert(1, 1, 90);
        x.delete(1, 0);
        Check.due("deliver behind the receiver's letter", x.deliver(1, 2), 0);
        Check.due("text", Check.text(x, 2), "1 90");
        Check.due("deliver of the delete of the receiver's letter", x.deliver(1, 2), 0);
        Check.due("text", Check.text(x, 2), "90");
    }

    /** The least number is looked at alone: what comes behind it doesn't overtake it. */
    private static void whatWaitsHoldsBackWhatFollows() {
        TextReplica x = knownAt1();
        x.insert(1, 1, 90);
        x.insert(1, 0, 91);
        Check.due("deliver", x.deliver(1, 2), -2);
        Check.due("deliver", x.deliver(1, 2), -2);
        Check.due("known", x.known(2, 1), 0);
        Check.due("length", x.length(2), 0);
        Check.due("deliver of the anchor", x.deliver(0, 2), 0);
        Check.due("deliver", x.deliver(1, 2), 0);
        Check.due("text", Check.text(x, 2), "1 90");
        Check.due("deliver", x.deliver(1, 2), 0);
        Check.due("text", Check.text(x, 2), "91 1 90");
    }

    private static void aFullObjectDelivers() {
        TextReplica x = Starts.letters(0, 46);
        x.sync(0, 1);
        x.insert(1, 46, 90);
        x.delete(1, 0);
        Check.due("deliver when full, without the anchor", x.deliver(1, 2), -2);
        x.sync(0, 2);
        Check.due("deliver when full", x.deliver(1, 2), 0);
        Check.due("last letter", x.letter(2, 46), 90);
        Check.due("deliver of the 48th change", x.deliver(1, 2), 0);
        Check.due("first letter", x.letter(2, 0), 2);
        Check.due("deliver of no more", x.deliver(1, 2), -1);
    }
}
