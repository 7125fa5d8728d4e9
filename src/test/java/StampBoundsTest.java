/**
 * Terms: a stamp's number is "one more than the greatest stamp number of all inserts that the origin knows (1 if
 * it knows none)", and of two stamps "the GREATER is the one with the greater number, of equal numbers that with
 * the greater origin". Stamps are seen in the order of inserts that stand side by side.
 */
public final class StampBoundsTest {
    private static final int[][] ORDERS = {{0, 1, 2}, {0, 2, 1}, {1, 0, 2}, {1, 2, 0}, {2, 0, 1}, {2, 1, 0}};

    public static void main(String[] args) {
        for (int a = 0; a < 3; a++) {
            for (int b = 0; b < 3; b++) {
                if (a != b) {
                    oneIfItKnowsNone(a, b);
                    oneIfOnlyRefusedInsertsCameBefore(a, b);
                    twoIfItKnowsTheFirst(a, b);
                    oneMoreThanAllThatItKnows(a, b);
                    farAlongItIsStillOneMore(a, b);
                    lettersTakenAwayCount(a, b);
                    deletesDontCount(a, b);
                    equalNumbersGoByOrigin(a, b);
                    equalNumbersBehindAnAnchorGoByOrigin(a, b);
                    oneMoreBeatsTheOrigin(a, b);
                    farMoreBeatsTheOrigin(a, b);
                }
            }
        }
        theGreatestCountsNotHowMany();
        threeEqualNumbersGoByOrigin();
        Check.end();
    }

    private static void allShow(String what, TextReplica x, String want) {
        Starts.syncAll(x);
        for (int replica = 0; replica < 3; replica++) {
            Check.due(what + ": text of " + replica, Check.text(x, replica), want);
        }
    }

    /** Stamps 1, 2, .. up to the count, each without anchor: the letters 1, 2, .. from the back to the front. */
    private static TextReplica numbered(int replica, int count) {
        TextReplica x = new TextReplica();
        for (int i = 1; i <= count; i++) {
            x.insert(replica, 0, i);
        }
        return x;
    }

    private static String names(int a, int b) {
        return "origins " + a + " and " + b;
    }

    private static void oneIfItKnowsNone(int a, int b) {
        TextReplica x = numbered(a, 3);
        Check.due("insert", x.insert(b, 0, 90), 1);
        allShow(names(a, b), x, b > a ? "3 2 90 1" : "3 2 1 90");
    }

    private static void oneIfOnlyRefusedInsertsCameBefore(int a, int b) {
        TextReplica x = numbered(a, 3);
        x.insert(b, 1, 80);
        x.insert(b, -1, 81);
        x.delete(b, 0);
        x.sync(3 - a - b, b);
        Check.due("insert", x.insert(b, 0, 90), 1);
        allShow(names(a, b), x, b > a ? "3 2 90 1" : "3 2 1 90");
    }

    private static void twoIfItKnowsTheFirst(int a, int b) {
        TextReplica x = numbered(a, 3);
        x.deliver(a, b);
        Check.due("insert", x.insert(b, 0, 90), 2);
        allShow(names(a, b), x, b > a ? "3 90 2 1" : "3 2 90 1");
    }

    private static void oneMoreThanAllThatItKnows(int a, int b) {
        TextReplica x = numbered(a, 3);
        x.sync(a, b);
        Check.due("insert", x.insert(b, 0, 90), 4);
        Check.due("insert", x.insert(a, 0, 4), 4);
        Check.due("insert", x.insert(a, 0, 5), 5);
        allShow(names(a, b), x, b > a ? "5 90 4 3 2 1" : "5 4 90 3 2 1");
    }

    private static void farAlongItIsStillOneMore(int a, int b) {
        TextReplica x = numbered(a, 44);
        x.sync(a, b);
        x.insert(b, 0, 90);
        x.insert(b, 0, 91);
        x.insert(a, 0, 45);
        x.insert(a, 0, 46);
        Starts.syncAll(x);
        Check.due("length", x.length(a), 48);
        String front = x.letter(a, 0) + " " + x.letter(a, 1) + " " + x.letter(a, 2) + " " + x.letter(a, 3);
        Check.due(names(a, b), front, b > a ? "91 46 90 45" : "46 91 45 90");
        Check.due("then", x.letter(a, 4), 44);
    }

    private static void lettersTakenAwayCount(int a, int b) {
        TextReplica x = numbered(a, 2);
        x.delete(a, 0);
        x.delete(a, 0);
        x.sync(a, b);
        int c = 3 - a - b;
        x.insert(c, 0, 1);
        x.insert(c, 0, 2);
        x.insert(c, 0, 3);
        Check.due("insert into an emptied text", x.insert(b, 0, 90), 1);
        allShow(names(b, c), x, b > c ? "90 3 2 1" : "3 90 2 1");
    }

    private static void deletesDontCount(int a, int b) {
        TextReplica x = numbered(a, 2);
        x.sync(a, b);
        x.delete(b, 0);
        x.delete(b, 0);
        x.insert(b, 0, 90);
        x.insert(a, 0, 3);
        x.insert(a, 0, 4);
        x.insert(a, 0, 5);
        // The stamp's number is 3, though five changes are known where it is made.
        allShow(names(a, b), x, b > a ? "5 4 90 3" : "5 4 3 90");
    }

    private static void theGreatestCountsNotHowMany() {
        TextReplica x = new TextReplica();
        for (int replica = 0; replica < 3; replica++) {
            x.insert(replica, 0, replica + 1);
        }
        x.sync(1, 0);
        x.sync(2, 0);
        Check.due("insert where three stamps of number 1 are known", x.insert(0, 0, 90), 4);
        x.insert(2, 0, 4);
        x.insert(2, 0, 5);
        allShow("the number is 2", x, "5 4 90 3 2 1");
    }

    private static void equalNumbersGoByOrigin(int a, int b) {
        TextReplica x = new TextReplica();
        x.insert(a, 0, 10 + a);
        x.insert(b, 0, 10 + b);
        int less = a < b ? a : b;
        int greater = a < b ? b : a;
        x.deliver(a, b);
        Check.due("text of " + b, Check.text(x, b), (10 + greater) + " " + (10 + less));
        x.deliver(b, a);
        Check.due("text of " + a, Check.text(x, a), (10 + greater) + " " + (10 + less));
        allShow(names(a, b), x, (10 + greater) + " " + (10 + less));
    }

    private static void equalNumbersBehindAnAnchorGoByOrigin(int a, int b) {
        TextReplica x = Starts.shared(2);
        x.insert(a, 1, 10 + a);
        x.insert(b, 1, 10 + b);
        x.insert(a, 3, 20 + a);
        x.insert(b, 3, 20 + b);
        int less = a < b ? a : b;
        int greater = a < b ? b : a;
        allShow(names(a, b) + " behind an anchor", x,
            "1 " + (10 + greater) + " " + (10 + less) + " 2 " + (20 + greater) + " " + (20 + less));
    }

    private static void oneMoreBeatsTheOrigin(int a, int b) {
        TextReplica x = numbered(a, 2);
        x.insert(b, 0, 90);
        Starts.syncAll(x);
        Check.due(names(a, b) + ": number 2 stands before number 1", x.letter(b, 0), 2);
        TextReplica y = Starts.shared(1);
        y.insert(a, 1, 10);
        y.insert(a, 1, 11);
        y.insert(b, 1, 20);
        Starts.syncAll(y);
        Check.due(names(a, b) + " behind an anchor: the anchor", y.letter(b, 0), 1);
        Check.due(names(a, b) + " behind an anchor: number 3 stands before number 2", y.letter(b, 1), 11);
    }

    private static void farMoreBeatsTheOrigin(int a, int b) {
        TextReplica x = numbered(a, 47);
        x.insert(b, 0, 90);
        Starts.syncAll(x);
        for (int place = 0; place < 46; place++) {
            Check.due(names(a, b) + ": letter at " + place, x.letter(b, place), 47 - place);
        }
        Check.due(names(a, b) + ": last letter", x.letter(b, 47), b > a ? 1 : 90);
    }

    private static void threeEqualNumbersGoByOrigin() {
        for (int[] order : ORDERS) {
            TextReplica x = new TextReplica();
            for (int origin : order) {
                x.insert(origin, 0, 10 + origin);
            }
            allShow("three origins", x, "12 11 10");
            for (int origin : order) {
                x.insert(origin, 3, 20 + origin);
            }
            allShow("three origins behind an anchor", x, "12 11 10 22 21 20");
        }
    }
}
