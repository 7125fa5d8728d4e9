/** What it is: "An object is used for at most 512 calls": the 512th still answers as promised. */
public final class CallsBoundsTest {
    private static final int MOST_CALLS = 512;
    private static final int CALLS_OF_SPREAD = 7;

    public static void main(String[] args) {
        theLastCallMakesAChange();
        theLastCallIsRefused();
        theLastCallSpreads();
        theLastCallAsks();
        whatTheCallBeforeTheLastDidIsSeen();
        allCallsButTheFirstsAreOfOneKind();
        Check.end();
    }

    /** Calls that move nothing, of all kinds, until so many are left of the object's 512. */
    private static TextReplica late(TextReplica x, int made, int left) {
        for (int call = made; call < MOST_CALLS - left; call++) {
            moveNothing(x, call);
        }
        return x;
    }

    private static void moveNothing(TextReplica x, int call) {
        int replica = call / 9 % 3;
        switch (call % 9) {
            case 0 -> x.insert(replica, -1, 99);
            case 1 -> x.delete(replica, 48);
            case 2 -> x.deliver(replica, replica);
            case 3 -> x.sync(replica, replica);
            case 4 -> x.length(replica);
            case 5 -> x.letter(replica, call % 7);
            case 6 -> x.row(replica);
            case 7 -> x.known(replica, call % 3);
            default -> x.alike(replica, call % 3);
        }
    }

    private static TextReplica lateLetters(int count) {
        return late(Starts.letters(0, count), count, 1);
    }

    private static TextReplica lateSpread(int left) {
        return late(Starts.spread(), CALLS_OF_SPREAD, left);
    }

    private static void theLastCallMakesAChange() {
        Check.due("insert as 512th call", lateSpread(1).insert(1, 2, 90), 3);
        Check.due("insert as 512th call and 48th change", lateLetters(47).insert(0, 47, 90), 48);
        Check.due("insert as 512th call and first change", lateLetters(0).insert(2, 0, 90), 1);
        Check.due("delete as 512th call", lateSpread(1).delete(0, 1), 2);
        Check.due("delete as 512th call and 48th change", lateLetters(47).delete(0, 0), 46);
    }

    private static void theLastCallIsRefused() {
        Check.due("insert as 512th call and 49th change", lateLetters(48).insert(0, 0, 90), -1);
        Check.due("delete as 512th call and 49th change", lateLetters(48).delete(0, 0), -1);
        Check.due("insert as 512th call, place outside", lateSpread(1).insert(1, 3, 90), -1);
        Check.due("delete as 512th call, place outside", lateSpread(1).delete(1, 2), -1);
        Check.due("deliver as 512th call, none", lateSpread(1).deliver(0, 0), -1);
        Check.due("sync as 512th call, wrong replica", lateSpread(1).sync(0, 3), -1);
        Check.due("letter as 512th call, place outside", lateSpread(1).letter(0, 3), 0);
    }

    private static void theLastCallSpreads() {
        Check.due("deliver as 512th call", lateSpread(1).deliver(0, 2), 0);
        Check.due("deliver as 512th call, without the anchor", lateSpread(1).deliver(1, 2), -2);
        Check.due("sync as 512th call", lateSpread(1).sync(1, 2), 0);
    }

    private static void theLastCallAsks() {
        Check.due("length as 512th call", lateSpread(1).length(1), 2);
        Check.due("letter as 512th call", lateSpread(1).letter(1, 1), 20);
        Check.due("row as 512th call", lateSpread(1).row(1), 3);
        Check.due("known as 512th call", lateSpread(1).known(1, 0), 2);
        Check.due("alike as 512th call", lateSpread(1).alike(0, 1), 0);
        Check.due("alike as 512th call on a new text", lateLetters(0).alike(0, 1), 1);
    }

    private static void whatTheCallBeforeTheLastDidIsSeen() {
        TextReplica inserted = lateSpread(2);
        inserted.insert(1, 0, 90);
        Check.due("letter behind an insert as 511th call", inserted.letter(1, 0), 90);
        TextReplica deleted = lateSpread(2);
        deleted.delete(1, 0);
        Check.due("letter behind a delete as 511th call", deleted.letter(1, 0), 20);
        TextReplica delivered = lateSpread(2);
        delivered.deliver(0, 2);
        Check.due("known behind a deliver as 511th call", delivered.known(2, 0), 1);
        TextReplica synced = lateSpread(2);
        synced.sync(1, 2);
        Check.due("row behind a sync as 511th call", synced.row(2), 4);
    }

    private static void allCallsButTheFirstsAreOfOneKind() {
        for (int kind = 0; kind < 9; kind++) {
            TextReplica x = Starts.spread();
            for (int call = CALLS_OF_SPREAD; call < MOST_CALLS - 1; call++) {
                moveNothing(x, kind + 9 * call);
            }
            Check.due("insert behind 504 calls of kind " + kind, x.insert(0, 3, 90), 4);
        }
        TextReplica x = Starts.spread();
        for (int call = CALLS_OF_SPREAD + 1; call <= MOST_CALLS; call++) {
            Check.due("deliver without the anchor as call " + call, x.deliver(1, 2), -2);
        }
    }
}
