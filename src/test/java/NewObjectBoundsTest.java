/** Promise 1, "No change is made.", and Terms: "none at the start", "numbered from 1". */
public final class NewObjectBoundsTest {
    private static final String NOTHING =
        "[] row 0 known 0 0 0; [] row 0 known 0 0 0; [] row 0 known 0 0 0; ";

    public static void main(String[] args) {
        knowsNothing();
        hasNothingToTakeAwayOrToSpread();
        askingMakesNoChange();
        hasRoomForAll48();
        theFirstChangeIsNumber1();
        isNewAlsoBesideAFullOne();
        Check.end();
    }

    private static void knowsNothing() {
        TextReplica x = new TextReplica();
        Check.due("state", Check.state(x), NOTHING);
        for (int replica = 0; replica < 3; replica++) {
            for (int place : new int[] {-1, 0, 1, 47, 48, Integer.MIN_VALUE, Integer.MAX_VALUE}) {
                Check.due("letter(" + replica + ", " + place + ")", x.letter(replica, place), 0);
            }
            Check.due("alike", x.alike(replica, (replica + 1) % 3), 1);
        }
    }

    private static void hasNothingToTakeAwayOrToSpread() {
        for (int replica = 0; replica < 3; replica++) {
            int r = replica;
            Unmoved.due("delete(" + r + ", 0) on a new object", TextReplica::new, x -> x.delete(r, 0), -1);
            Unmoved.due("insert(" + r + ", 1, 9) on a new object", TextReplica::new, x -> x.insert(r, 1, 9), -1);
            for (int to = 0; to < 3; to++) {
                int t = to;
                String pair = "(" + r + ", " + t + ") on a new object";
                Unmoved.due("deliver" + pair, TextReplica::new, x -> x.deliver(r, t), -1);
                Unmoved.due("sync" + pair, TextReplica::new, x -> x.sync(r, t), 0);
            }
        }
    }

    private static void askingMakesNoChange() {
        Unmoved.due("length(0)", TextReplica::new, x -> x.length(0), 0);
        Unmoved.due("letter(0, 0)", TextReplica::new, x -> x.letter(0, 0), 0);
        Unmoved.due("row(0)", TextReplica::new, x -> x.row(0), 0);
        Unmoved.due("known(0, 0)", TextReplica::new, x -> x.known(0, 0), 0);
        Unmoved.due("alike(0, 1)", TextReplica::new, x -> x.alike(0, 1), 1);
        askedLater();
    }

    /** One letter alone leaves the stamps of all later inserts open to be moved; spread has deletes too. */
    private static void askedLater() {
        Unmoved.due("length(0) of one letter", () -> Starts.letters(0, 1), x -> x.length(0), 1);
        Unmoved.due("letter(0, 0) of one letter", () -> Starts.letters(0, 1), x -> x.letter(0, 0), 1);
        Unmoved.due("row(0) of one letter", () -> Starts.letters(0, 1), x -> x.row(0), 1);
        Unmoved.due("known(0, 0) of one letter", () -> Starts.letters(0, 1), x -> x.known(0, 0), 1);
        Unmoved.due("alike(0, 1) of one letter", () -> Starts.letters(0, 1), x -> x.alike(0, 1), 0);
        Unmoved.due("length(1) later", Starts::spread, x -> x.length(1), 2);
        Unmoved.due("letter(1, 1) later", Starts::spread, x -> x.letter(1, 1), 20);
        Unmoved.due("row(1) later", Starts::spread, x -> x.row(1), 3);
        Unmoved.due("known(1, 0) later", Starts::spread, x -> x.known(1, 0), 2);
        Unmoved.due("alike(0, 1) later", Starts::spread, x -> x.alike(0, 1), 0);
    }

    private static void hasRoomForAll48() {
        TextReplica x = new TextReplica();
        for (int i = 1; i <= 48; i++) {
            Check.due("insert " + i, x.insert(2, 0, i), i);
        }
        Check.due("insert 49", x.insert(2, 0, 49), -1);
    }

    private static void theFirstChangeIsNumber1() {
        for (int from = 0; from < 3; from++) {
            TextReplica x = Starts.letters(from, 2);
            int to = (from + 1) % 3;
            Check.due("known before", x.known(to, from), 0);
            Check.due("deliver", x.deliver(from, to), 0);
            Check.due("the first that comes", Check.text(x, to), "1");
            Check.due("known then", x.known(to, from), 1);
        }
    }

    private static void isNewAlsoBesideAFullOne() {
        TextReplica full = Starts.letters(0, 48);
        full.sync(0, 1);
        TextReplica x = new TextReplica();
        Check.due("state", Check.state(x), NOTHING);
        Check.due("insert", x.insert(1, 0, 7), 1);
        Check.due("length of the full one", full.length(1), 48);
        Check.due("first letter of the full one", full.letter(1, 0), 1);
    }
}
