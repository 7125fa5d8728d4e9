/** Promise 2: insert, and the order of the row that the terms lay down. */
public final class InsertTest {
    public static void main(String[] args) {
        putsTheLetterAtThePlace();
        takesAnyInt();
        isKnownAtItsOriginAlone();
        refusesWrongPlaces();
        refusesWrongReplicas();
        refusesThe49thChange();
        refusedCallsAreNoChanges();
        equalNumbersGoByOrigin();
        greaterNumberComesFirst();
        stampCountsDeletedLetters();
        stampCountsOnlyWhatTheOriginKnows();
        followersStayWithTheirAnchor();
        anchorMayBeTakenAwayElsewhere();
        anchorIsTheShownLetterBefore();
        Check.end();
    }

    private static void putsTheLetterAtThePlace() {
        TextReplica x = new TextReplica();
        Check.due("insert(1, 0, 10)", x.insert(1, 0, 10), 1);
        Check.due("insert(1, 1, 30)", x.insert(1, 1, 30), 2);
        Check.due("insert(1, 1, 20)", x.insert(1, 1, 20), 3);
        Check.due("insert(1, 0, 5)", x.insert(1, 0, 5), 4);
        Check.due("insert(1, 4, 40)", x.insert(1, 4, 40), 5);
        Check.due("text", Check.text(x, 1), "5 10 20 30 40");
    }

    private static void takesAnyInt() {
        TextReplica x = new TextReplica();
        Check.due("insert 0", x.insert(0, 0, 0), 1);
        Check.due("insert -1", x.insert(0, 1, -1), 2);
        Check.due("insert least", x.insert(0, 2, Integer.MIN_VALUE), 3);
        Check.due("insert greatest", x.insert(0, 3, Integer.MAX_VALUE), 4);
        Check.due("text", Check.text(x, 0), "0 -1 -2147483648 2147483647");
    }

    private static void isKnownAtItsOriginAlone() {
        TextReplica x = new TextReplica();
        x.insert(2, 0, 7);
        Check.due("state", Check.state(x), "[] row 0 known 0 0 0; [] row 0 known 0 0 0; [7] row 1 known 0 0 1; ");
    }

    private static void refusesWrongPlaces() {
        TextReplica x = new TextReplica();
        x.insert(0, 0, 1);
        x.insert(0, 1, 2);
        x.delete(0, 0);
        String before = Check.state(x);
        Check.due("insert behind the shown text", x.insert(0, 2, 9), -1);
        Check.due("insert into a shorter text", x.insert(1, 1, 9), -1);
        for (int place : new int[] {-1, 3, Integer.MIN_VALUE, Integer.MAX_VALUE}) {
            Check.due("insert at " + place, x.insert(0, place, 9), -1);
        }
        Check.due("state", Check.state(x), before);
        Check.due("insert at the length", x.insert(0, 1, 3), 2);
    }

    private static void refusesWrongReplicas() {
        TextReplica x = new TextReplica();
        x.insert(0, 0, 1);
        String before = Check.state(x);
        for (int replica : Check.WRONG_REPLICAS) {
            Check.due("insert at replica " + replica, x.insert(replica, 0, 9), -1);
        }
        Check.due("state", Check.state(x), before);
    }

    private static void refusesThe49thChange() {
        TextReplica x = new TextReplica();
        for (int i = 0; i < 46; i++) {
            Check.due("insert " + i, x.insert(0, i, i), i + 1);
        }
        Check.due("delete as 47th", x.delete(0, 0), 45);
        Check.due("insert as 48th", x.insert(1, 0, 99), 1);
        String before = Check.state(x);
        for (int replica = 0; replica < 3; replica++) {
            Check.due("insert as 49th", x.insert(replica, 0, 9), -1);
        }
        Check.due("state", Check.state(x), before);
        Check.due("sync when full", x.sync(0, 1), 0);
        Check.due("deliver when full", x.deliver(1, 2), 0);
        Check.due("length", x.length(1), 46);
        Check.due("letter", x.letter(2, 0), 99);
    }

    private static void refusedCallsAreNoChanges() {
        TextReplica x = new TextReplica();
        for (int i = 0; i < 60; i++) {
            x.insert(0, 1, 1);
            x.insert(3, 0, 1);
            x.delete(0, 0);
            x.delete(-1, 0);
        }
        for (int i = 0; i < 48; i++) {
            Check.due("insert " + i, x.insert(0, 0, i), i + 1);
        }
        Check.due("insert 48", x.insert(0, 0, 48), -1);
    }

    private static void syncAll(TextReplica x) {
        x.sync(0, 1);
        x.sync(1, 2);
        x.sync(2, 1);
        x.sync(1, 0);
    }

    private static void allShow(TextReplica x, String want) {
        for (int replica = 0; replica < 3; replica++) {
            Check.due("text of " + replica, Check.text(x, replica), want);
        }
    }

    private static void equalNumbersGoByOrigin() {
        TextReplica x = new TextReplica();
        x.insert(1, 0, 11);
        x.insert(2, 0, 12);
        x.insert(0, 0, 10);
        syncAll(x);
        allShow(x, "12 11 10");
        x.insert(2, 2, 22);
        x.insert(0, 2, 20);
        x.insert(1, 2, 21);
        syncAll(x);
        allShow(x, "12 11 22 21 20 10");
    }

    private static void greaterNumberComesFirst() {
        TextReplica x = new TextReplica();
        x.insert(2, 0, 12);
        x.insert(0, 0, 10);
        x.insert(0, 0, 9);
        syncAll(x);
        allShow(x, "9 12 10");
    }

    private static void stampCountsDeletedLetters() {
        TextReplica x = new TextReplica();
        x.insert(0, 0, 1);
        x.insert(0, 0, 2);
        x.delete(0, 0);
        x.delete(0, 0);
        x.insert(0, 0, 3);
        x.insert(2, 0, 4);
        x.insert(2, 0, 5);
        syncAll(x);
        allShow(x, "3 5 4");
    }

    private static void stampCountsOnlyWhatTheOriginKnows() {
        TextReplica x = new TextReplica();
        x.insert(0, 0, 1);
        x.insert(0, 0, 2);
        x.insert(0, 0, 3);
        x.deliver(0, 1);
        x.insert(1, 0, 4);
        x.insert(2, 0, 5);
        syncAll(x);
        allShow(x, "3 4 2 5 1");
    }

    private static void followersStayWithTheirAnchor() {
        TextReplica x = new TextReplica();
        x.insert(0, 0, 1);
        x.insert(1, 0, 2);
        x.insert(0, 1, 3);
        x.insert(0, 2, 4);
        x.insert(1, 1, 5);
        x.insert(1, 1, 6);
        syncAll(x);
        allShow(x, "2 6 5 1 3 4");
        x.insert(2, 4, 7);
        syncAll(x);
        allShow(x, "2 6 5 1 7 3 4");
    }

    private static void anchorMayBeTakenAwayElsewhere() {
        TextReplica x = new TextReplica();
        x.insert(0, 0, 1);
        x.insert(0, 1, 2);
        syncAll(x);
        x.delete(0, 0);
        x.insert(1, 1, 3);
        syncAll(x);
        allShow(x, "3 2");
    }

    private static void anchorIsTheShownLetterBefore() {
        TextReplica x = new TextReplica();
        x.insert(0, 0, 1);
        x.insert(0, 1, 2);
        x.insert(0, 2, 3);
        x.delete(0, 1);
        x.sync(0, 1);
        // Anchored at 1, so it stands before the followers of the deleted 2.
        Check.due("insert behind 1", x.insert(1, 1, 4), 3);
        x.insert(0, 0, 5);
        syncAll(x);
        allShow(x, "5 1 4 3");
    }
}
