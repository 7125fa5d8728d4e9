/** Promise 6, length: "The length of the replica's text, or -1." */
public final class LengthBoundsTest {
    public static void main(String[] args) {
        from0To48();
        backTo0();
        lettersThatLookLikeNone();
        deletesThatArentKnown();
        deletesOfOneLetter();
        refusedCallsDontChangeIt();
        wrongReplicas();
        Check.end();
    }

    private static void from0To48() {
        for (int replica = 0; replica < 3; replica++) {
            TextReplica x = new TextReplica();
            Check.due("length of an empty text", x.length(replica), 0);
            for (int i = 1; i <= 48; i++) {
                x.insert(replica, i - 1, i);
                Check.due("length", x.length(replica), i);
                Check.due("length elsewhere", x.length((replica + 1) % 3), 0);
            }
            x.insert(replica, 48, 49);
            Check.due("length behind a refused insert", x.length(replica), 48);
        }
    }

    private static void backTo0() {
        TextReplica x = Starts.letters(1, 24);
        for (int i = 23; i >= 0; i--) {
            x.delete(1, i / 2);
            Check.due("length", x.length(1), i);
        }
        x.delete(1, 0);
        Check.due("length behind a refused delete", x.length(1), 0);
    }

    private static void lettersThatLookLikeNone() {
        TextReplica x = new TextReplica();
        x.insert(0, 0, 0);
        x.insert(0, 0, -1);
        Check.due("length with the letters 0 and -1", x.length(0), 2);
    }

    private static void deletesThatArentKnown() {
        TextReplica x = Starts.shared(2);
        x.delete(0, 0);
        Check.due("length where the delete is known", x.length(0), 1);
        Check.due("length where it isn't", x.length(1), 2);
        x.deliver(0, 1);
        Check.due("length where it is delivered", x.length(1), 1);
        x.sync(1, 2);
        Check.due("length where it is synced", x.length(2), 1);
    }

    private static void deletesOfOneLetter() {
        TextReplica x = Starts.shared(1);
        for (int replica = 0; replica < 3; replica++) {
            x.delete(replica, 0);
        }
        Starts.syncAll(x);
        for (int replica = 0; replica < 3; replica++) {
            Check.due("length where three deletes of one letter are known", x.length(replica), 0);
        }
    }

    private static void refusedCallsDontChangeIt() {
        TextReplica x = Starts.spread();
        x.insert(1, 3, 9);
        x.delete(1, 2);
        x.deliver(1, 2);
        x.sync(0, 3);
        Check.due("length(0)", x.length(0), 3);
        Check.due("length(1)", x.length(1), 2);
        Check.due("length(2)", x.length(2), 1);
    }

    private static void wrongReplicas() {
        for (int wrong : Check.WRONG_REPLICAS) {
            Unmoved.due("length of " + wrong, TextReplica::new, x -> x.length(wrong), -1);
            Unmoved.due("length of " + wrong, () -> Starts.shared(3), x -> x.length(wrong), -1);
            Unmoved.due("length of " + wrong, () -> Starts.shared(48), x -> x.length(wrong), -1);
        }
    }
}
