/** Terms: "at most 48 are made in all", and in promises 2 and 3: "or 48 changes have been made". */
public final class MostChangesBoundsTest {
    public static void main(String[] args) {
        all48MayBeMadeAtOneReplica();
        all48MayBeMadeAtThreeReplicas();
        deletesCount();
        the48thMayBeEither();
        the49thIsRefused();
        farMoreAreRefused();
        aDeleteMakesNoRoom();
        deliverAndSyncAreNoChanges();
        refusedCallsAreNoChanges();
        aFullObjectStillSpreadsItsChanges();
        Check.end();
    }

    private static void all48MayBeMadeAtOneReplica() {
        for (int replica = 0; replica < 3; replica++) {
            TextReplica x = new TextReplica();
            for (int i = 0; i < 48; i++) {
                Check.due("insert " + (i + 1) + " at " + replica, x.insert(replica, i, i + 1), i + 1);
            }
            for (int other = 0; other < 3; other++) {
                Check.due("49th insert at " + other, x.insert(other, 0, 9), -1);
            }
            Check.due("49th change, a delete at " + replica, x.delete(replica, 0), -1);
            Check.due("length", x.length(replica), 48);
            Check.due("known", x.known(replica, replica), 48);
        }
    }

    private static void all48MayBeMadeAtThreeReplicas() {
        TextReplica x = new TextReplica();
        for (int i = 0; i < 48; i++) {
            Check.due("insert " + (i + 1), x.insert(i % 3, 0, i + 1), i / 3 + 1);
        }
        for (int replica = 0; replica < 3; replica++) {
            Check.due("49th insert at " + replica, x.insert(replica, 0, 9), -1);
            Check.due("49th change, a delete at " + replica, x.delete(replica, 0), -1);
            Check.due("known", x.known(replica, replica), 16);
        }
    }

    private static void deletesCount() {
        TextReplica x = new TextReplica();
        for (int i = 0; i < 24; i++) {
            Check.due("insert", x.insert(1, 0, i), 1);
            Check.due("delete", x.delete(1, 0), 0);
        }
        Check.due("insert behind 24 inserts and 24 deletes", x.insert(1, 0, 9), -1);
        Check.due("insert elsewhere", x.insert(2, 0, 9), -1);
        Check.due("known", x.known(1, 1), 48);
        Check.due("row", x.row(1), 24);
    }

    private static void the48thMayBeEither() {
        for (int replica = 0; replica < 3; replica++) {
            TextReplica x = Starts.mixed(47);
            int length = x.length(replica);
            Check.due("insert as 48th at " + replica, x.insert(replica, length, 9), length + 1);
            Check.due("insert as 49th at " + replica, x.insert(replica, 0, 9), -1);
            TextReplica y = Starts.mixed(47);
            Check.due("delete as 48th at " + replica, y.delete(replica, 0), length - 1);
            Check.due("delete as 49th at " + replica, y.delete(replica, 0), -1);
        }
    }

    private static void the49thIsRefused() {
        for (int replica = 0; replica < 3; replica++) {
            int r = replica;
            for (int place : new int[] {-1, 0, 1, Starts.mixed(48).length(r)}) {
                Unmoved.due("insert(" + r + ", " + place + ", 9) as 49th", () -> Starts.mixed(48),
                    x -> x.insert(r, place, 9), -1);
                Unmoved.due("delete(" + r + ", " + place + ") as 49th", () -> Starts.mixed(48),
                    x -> x.delete(r, place), -1);
            }
            Unmoved.due("insert as 49th at " + r, () -> Starts.letters(r, 48), x -> x.insert(r, 48, 9), -1);
            Unmoved.due("delete as 49th at " + r, () -> Starts.letters(r, 48), x -> x.delete(r, 47), -1);
        }
    }

    private static void farMoreAreRefused() {
        TextReplica x = Starts.letters(0, 48);
        x.sync(0, 1);
        for (int i = 0; i < 60; i++) {
            Check.due("insert far behind the 48th", x.insert(i % 3, 0, 9), -1);
            Check.due("delete far behind the 48th", x.delete(i % 2, 0), -1);
        }
        Check.due("length", x.length(0), 48);
        Check.due("length", x.length(1), 48);
        Check.due("length", x.length(2), 0);
        Check.due("known", x.known(0, 0) + x.known(1, 1) + x.known(2, 2), 48);
    }

    private static void aDeleteMakesNoRoom() {
        TextReplica x = Starts.letters(0, 47);
        Check.due("delete as 48th", x.delete(0, 46), 46);
        Check.due("insert into the shorter text", x.insert(0, 46, 9), -1);
    }

    private static void deliverAndSyncAreNoChanges() {
        TextReplica x = new TextReplica();
        for (int i = 0; i < 48; i++) {
            Check.due("insert " + (i + 1), x.insert(0, 0, i), i + 1);
            Check.due("deliver", x.deliver(0, 1), 0);
            Check.due("sync", x.sync(1, 2), 0);
            Check.due("sync back", x.sync(2, 0), 0);
        }
        Check.due("49th insert", x.insert(2, 0, 9), -1);
    }

    private static void refusedCallsAreNoChanges() {
        TextReplica x = Starts.spread();
        for (int i = 0; i < 50; i++) {
            Check.due("insert outside the text", x.insert(2, 2, 9), -1);
            Check.due("delete outside the text", x.delete(2, 1), -1);
            Check.due("insert at replica 3", x.insert(3, 0, 9), -1);
            Check.due("deliver too early", x.deliver(1, 2), -2);
        }
        // Six changes made the start.
        for (int i = 7; i <= 48; i++) {
            Check.due("change " + i, x.insert(2, 0, i), i - 5);
        }
        Check.due("49th change", x.insert(2, 0, 9), -1);
    }

    private static void aFullObjectStillSpreadsItsChanges() {
        TextReplica x = Starts.letters(0, 48);
        for (int i = 1; i <= 48; i++) {
            Check.due("deliver " + i, x.deliver(0, 1), 0);
        }
        Check.due("deliver 49", x.deliver(0, 1), -1);
        Check.due("sync", x.sync(1, 2), 0);
        Check.due("length", x.length(2), 48);
        Check.due("last letter", x.letter(2, 47), 48);
        Check.due("alike", x.alike(0, 2), 1);
    }
}
