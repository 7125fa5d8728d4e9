/** Promise 7, letter: "The letter at the place of the replica's text; 0 if there is none or refused." */
public final class LetterBoundsTest {
    public static void main(String[] args) {
        theFirstAndTheLast();
        noneOutsideTheText();
        noneInAnEmptyText();
        noneInAnEmptiedText();
        noneOfTheLettersTakenAway();
        noneOfTheOthersLetters();
        anyInt();
        wrongReplicas();
        Check.end();
    }

    private static void theFirstAndTheLast() {
        for (int count : new int[] {1, 2, 3, 47, 48}) {
            TextReplica x = Starts.letters(2, count);
            Check.due("first letter of " + count, x.letter(2, 0), 1);
            Check.due("last letter of " + count, x.letter(2, count - 1), count);
            Check.due("letter behind the last of " + count, x.letter(2, count), 0);
            Check.due("letter before the first of " + count, x.letter(2, -1), 0);
        }
    }

    private static void noneOutsideTheText() {
        for (int count : new int[] {1, 3, 48}) {
            Unmoved.due("letter at -1", () -> Starts.shared(count), x -> x.letter(1, -1), 0);
            Unmoved.due("letter at " + count, () -> Starts.shared(count), x -> x.letter(1, count), 0);
            Unmoved.due("letter at " + (count + 1), () -> Starts.shared(count), x -> x.letter(1, count + 1), 0);
            for (int place : Check.FAR_PLACES) {
                Unmoved.due("letter at " + place, () -> Starts.shared(count), x -> x.letter(1, place), 0);
            }
        }
    }

    private static void noneInAnEmptyText() {
        for (int place : new int[] {-1, 0, 1, 47, 48}) {
            Unmoved.due("letter of a new object", TextReplica::new, x -> x.letter(0, place), 0);
            Unmoved.due("letter where nothing is known", () -> Starts.letters(0, 3), x -> x.letter(1, place), 0);
        }
    }

    private static void noneInAnEmptiedText() {
        TextReplica x = Starts.letters(0, 2);
        x.delete(0, 1);
        x.delete(0, 0);
        for (int place = -1; place <= 2; place++) {
            Check.due("letter at " + place + " of an emptied text", x.letter(0, place), 0);
        }
    }

    private static void noneOfTheLettersTakenAway() {
        TextReplica x = Starts.shared(4);
        x.delete(1, 3);
        x.delete(1, 0);
        Check.due("letter(1, 0)", x.letter(1, 0), 2);
        Check.due("letter(1, 1)", x.letter(1, 1), 3);
        Check.due("letter(1, 2)", x.letter(1, 2), 0);
        Check.due("letter(1, 3)", x.letter(1, 3), 0);
        Check.due("letter(0, 0) where the deletes aren't known", x.letter(0, 0), 1);
        Check.due("letter(0, 3) where the deletes aren't known", x.letter(0, 3), 4);
    }

    private static void noneOfTheOthersLetters() {
        TextReplica x = Starts.spread();
        Check.due("letter(0, 2)", x.letter(0, 2), 12);
        Check.due("letter(0, 3)", x.letter(0, 3), 0);
        Check.due("letter(1, 1)", x.letter(1, 1), 20);
        Check.due("letter(1, 2)", x.letter(1, 2), 0);
        Check.due("letter(2, 0)", x.letter(2, 0), 30);
        Check.due("letter(2, 1)", x.letter(2, 1), 0);
    }

    private static void anyInt() {
        int[] letters = {Integer.MIN_VALUE, -65536, -256, -2, -1, 0, 1, 255, 256, 65535, 65536, Integer.MAX_VALUE};
        TextReplica x = new TextReplica();
        for (int i = 0; i < letters.length; i++) {
            x.insert(0, i, letters[i]);
        }
        x.sync(0, 2);
        for (int i = 0; i < letters.length; i++) {
            Check.due("letter(0, " + i + ")", x.letter(0, i), letters[i]);
            Check.due("letter(2, " + i + ")", x.letter(2, i), letters[i]);
        }
        Check.due("letter behind them", x.letter(0, letters.length), 0);
    }

    /** Refused is 0 here, not -1, also where the other texts have a letter at the place. */
    private static void wrongReplicas() {
        for (int wrong : Check.WRONG_REPLICAS) {
            for (int place : new int[] {-1, 0, 2, 3, Integer.MIN_VALUE, Integer.MAX_VALUE}) {
                String call = "letter(" + wrong + ", " + place + ")";
                Unmoved.due(call, TextReplica::new, x -> x.letter(wrong, place), 0);
                Unmoved.due(call, () -> Starts.shared(3), x -> x.letter(wrong, place), 0);
            }
            Unmoved.due("letter of " + wrong, () -> Starts.shared(48), x -> x.letter(wrong, 47), 0);
        }
    }
}
