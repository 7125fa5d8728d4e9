/** Promise 8, row: "The number of inserts in the replica's row, or -1." */
public final class RowBoundsTest {
    public static void main(String[] args) {
        from0To48();
        deletesLeaveItAsItIs();
        insertsThatArentKnown();
        aDeliveredDeleteIsNoInsert();
        refusedCallsDontChangeIt();
        wrongReplicas();
        Check.end();
    }

    private static void from0To48() {
        for (int replica = 0; replica < 3; replica++) {
            TextReplica x = new TextReplica();
            Check.due("row of a new object", x.row(replica), 0);
            for (int i = 1; i <= 48; i++) {
                x.insert(replica, 0, i);
                Check.due("row", x.row(replica), i);
                Check.due("row elsewhere", x.row((replica + 2) % 3), 0);
            }
            x.insert(replica, 0, 49);
            Check.due("row behind a refused insert", x.row(replica), 48);
            x.sync(replica, (replica + 1) % 3);
            Check.due("row behind a sync", x.row((replica + 1) % 3), 48);
        }
    }

    private static void deletesLeaveItAsItIs() {
        TextReplica x = Starts.letters(0, 24);
        for (int i = 0; i < 24; i++) {
            x.delete(0, 0);
            Check.due("row behind " + (i + 1) + " deletes", x.row(0), 24);
        }
        Check.due("length", x.length(0), 0);
    }

    private static void insertsThatArentKnown() {
        TextReplica x = Starts.letters(0, 2);
        Check.due("row where nothing is known", x.row(1), 0);
        x.deliver(0, 1);
        Check.due("row where one is known", x.row(1), 1);
        x.deliver(0, 1);
        Check.due("row where both are known", x.row(1), 2);
        x.deliver(0, 1);
        Check.due("row where no more is to come", x.row(1), 2);
        x.insert(2, 0, 9);
        x.sync(1, 2);
        Check.due("row of two origins", x.row(2), 3);
    }

    private static void aDeliveredDeleteIsNoInsert() {
        TextReplica x = Starts.shared(2);
        x.delete(0, 0);
        x.deliver(0, 1);
        x.sync(0, 2);
        Check.due("row(0)", x.row(0), 2);
        Check.due("row(1)", x.row(1), 2);
        Check.due("row(2)", x.row(2), 2);
    }

    private static void refusedCallsDontChangeIt() {
        TextReplica x = Starts.spread();
        x.insert(1, 3, 9);
        x.insert(1, -1, 9);
        x.deliver(1, 2);
        x.sync(0, 3);
        Check.due("row(0)", x.row(0), 3);
        Check.due("row(1)", x.row(1), 3);
        Check.due("row(2)", x.row(2), 1);
    }

    private static void wrongReplicas() {
        for (int wrong : Check.WRONG_REPLICAS) {
            Unmoved.due("row of " + wrong, TextReplica::new, x -> x.row(wrong), -1);
            Unmoved.due("row of " + wrong, () -> Starts.shared(3), x -> x.row(wrong), -1);
            Unmoved.due("row of " + wrong, () -> Starts.shared(48), x -> x.row(wrong), -1);
        }
    }
}
