import java.util.function.ToIntFunction;

/**
 * Terms: "A replica number must be from 0 to 2; other numbers are refused: the call answers -1 and changes
 * nothing." Every call that takes a replica number, at each of its arguments. (letter answers 0 when refused.)
 */
public final class ReplicaNumberBoundsTest {
    public static void main(String[] args) {
        zeroToTwoAreTaken();
        for (int wrong : Check.WRONG_REPLICAS) {
            oneNumberIsRefused(wrong);
            for (int right = 0; right < 3; right++) {
                ofTwoNumbersEitherIsRefused(wrong, right);
            }
            bothNumbersAreRefused(wrong, wrong);
        }
        wrongNumbersDontMakeUpForEachOther();
        wrongNumbersAreRefusedByAFullObject();
        Check.end();
    }

    private static void zeroToTwoAreTaken() {
        for (int a = 0; a < 3; a++) {
            TextReplica x = new TextReplica();
            Check.due("insert(" + a + ", 0, 7)", x.insert(a, 0, 7), 1);
            Check.due("length(" + a + ")", x.length(a), 1);
            Check.due("letter(" + a + ", 0)", x.letter(a, 0), 7);
            Check.due("row(" + a + ")", x.row(a), 1);
            Check.due("delete(" + a + ", 0)", x.delete(a, 0), 0);
            for (int b = 0; b < 3; b++) {
                Check.due("known(" + b + ", " + a + ")", x.known(b, a), a == b ? 2 : 0);
                Check.due("deliver(" + a + ", " + b + ")", x.deliver(a, b), a == b ? -1 : 0);
                Check.due("sync(" + a + ", " + b + ")", x.sync(a, b), 0);
                Check.due("alike(" + a + ", " + b + ")", x.alike(a, b), 1);
                Check.due("known(" + b + ", " + a + ")", x.known(b, a), 2);
            }
        }
    }

    private static void refused(String call, ToIntFunction<TextReplica> made, int want) {
        Unmoved.due(call, TextReplica::new, made, want);
        Unmoved.due(call, () -> Starts.letters(0, 1), made, want);
        Unmoved.due(call, Starts::spread, made, want);
    }

    private static void oneNumberIsRefused(int wrong) {
        refused("insert(" + wrong + ", 0, 9)", x -> x.insert(wrong, 0, 9), -1);
        refused("insert(" + wrong + ", 1, 9)", x -> x.insert(wrong, 1, 9), -1);
        refused("delete(" + wrong + ", 0)", x -> x.delete(wrong, 0), -1);
        refused("length(" + wrong + ")", x -> x.length(wrong), -1);
        refused("letter(" + wrong + ", 0)", x -> x.letter(wrong, 0), 0);
        refused("row(" + wrong + ")", x -> x.row(wrong), -1);
    }

    private static void ofTwoNumbersEitherIsRefused(int wrong, int right) {
        bothNumbersAreRefused(wrong, right);
        bothNumbersAreRefused(right, wrong);
    }

    private static void bothNumbersAreRefused(int a, int b) {
        String numbers = "(" + a + ", " + b + ")";
        refused("deliver" + numbers, x -> x.deliver(a, b), -1);
        refused("sync" + numbers, x -> x.sync(a, b), -1);
        refused("known" + numbers, x -> x.known(a, b), -1);
        refused("alike" + numbers, x -> x.alike(a, b), -1);
    }

    /** Pairs that, reckoned together as 3 times the one plus the other, would name a right pair. */
    private static void wrongNumbersDontMakeUpForEachOther() {
        bothNumbersAreRefused(-1, 3);
        bothNumbersAreRefused(3, -1);
        bothNumbersAreRefused(-1, 5);
        bothNumbersAreRefused(5, -9);
        bothNumbersAreRefused(-2, 8);
        bothNumbersAreRefused(3, -3);
    }

    private static void wrongNumbersAreRefusedByAFullObject() {
        for (int wrong : new int[] {-1, 3, Integer.MIN_VALUE, Integer.MAX_VALUE}) {
            String full = " of a full object, replica " + wrong;
            Unmoved.due("insert" + full, () -> Starts.mixed(48), x -> x.insert(wrong, 0, 9), -1);
            Unmoved.due("delete" + full, () -> Starts.mixed(48), x -> x.delete(wrong, 0), -1);
            Unmoved.due("deliver" + full, () -> Starts.mixed(48), x -> x.deliver(wrong, 0), -1);
            Unmoved.due("sync" + full, () -> Starts.mixed(48), x -> x.sync(0, wrong), -1);
        }
    }
}
