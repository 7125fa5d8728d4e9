/** Promise 10, alike: "1 if the two replicas show the same text, else 0; -1." */
public final class AlikeBoundsTest {
    public static void main(String[] args) {
        withItself();
        emptyTexts();
        emptiedTexts();
        oneLetterMore();
        noLetterIsNotTheLetterZero();
        oneLetterOtherwise();
        lettersFarApart();
        theSameLettersInAnotherOrder();
        theSameLettersFromOtherChanges();
        lettersTakenAwayDontCount();
        wrongReplicas();
        Check.end();
    }

    private static void dueAlike(String what, TextReplica x, int a, int b, int want) {
        Check.due(what + ": alike(" + a + ", " + b + ")", x.alike(a, b), want);
        Check.due(what + ": alike(" + b + ", " + a + ")", x.alike(b, a), want);
    }

    private static void withItself() {
        for (int replica = 0; replica < 3; replica++) {
            int r = replica;
            Unmoved.due("alike with itself", TextReplica::new, x -> x.alike(r, r), 1);
            Unmoved.due("alike with itself", Starts::spread, x -> x.alike(r, r), 1);
            Unmoved.due("alike with itself", () -> Starts.mixed(48), x -> x.alike(r, r), 1);
        }
    }

    private static void emptyTexts() {
        TextReplica x = new TextReplica();
        dueAlike("two empty texts", x, 0, 1, 1);
        dueAlike("two empty texts", x, 1, 2, 1);
        dueAlike("two empty texts", x, 0, 2, 1);
        x.insert(1, 0, 5);
        dueAlike("an empty text and a letter", x, 0, 1, 0);
        dueAlike("an empty text and a letter", x, 1, 2, 0);
        dueAlike("two empty texts", x, 0, 2, 1);
    }

    private static void emptiedTexts() {
        TextReplica x = Starts.letters(0, 2);
        x.delete(0, 0);
        dueAlike("one letter left and an empty text", x, 0, 1, 0);
        x.delete(0, 0);
        dueAlike("an emptied and an empty text", x, 0, 1, 1);
    }

    private static void oneLetterMore() {
        for (int count : new int[] {1, 2, 23}) {
            TextReplica x = Starts.shared(count);
            dueAlike("the same " + count, x, 0, 1, 1);
            x.insert(1, count, count);
            dueAlike("one more at the end of " + count, x, 0, 1, 0);
            x.delete(1, count);
            dueAlike("the same " + count + " again", x, 0, 1, 1);
            x.insert(2, 0, 1);
            dueAlike("one more at the beginning of " + count, x, 0, 2, 0);
        }
    }

    /** letter answers 0 also where there is no letter. */
    private static void noLetterIsNotTheLetterZero() {
        TextReplica x = new TextReplica();
        x.insert(0, 0, 0);
        dueAlike("the letter 0 and an empty text", x, 0, 1, 0);
        x.insert(1, 0, 0);
        dueAlike("the letter 0 twice", x, 0, 1, 1);
        x.insert(1, 1, 0);
        dueAlike("the letter 0 once and twice", x, 0, 1, 0);
    }

    private static void oneLetterOtherwise() {
        for (int count : new int[] {1, 2, 24}) {
            for (int other : new int[] {0, count / 2, count - 1}) {
                TextReplica x = new TextReplica();
                for (int i = 0; i < count; i++) {
                    x.insert(0, i, i + 1);
                    x.insert(1, i, i == other ? i + 2 : i + 1);
                }
                dueAlike("letter " + other + " of " + count + " is another", x, 0, 1, 0);
            }
            TextReplica y = new TextReplica();
            for (int i = 0; i < count; i++) {
                y.insert(0, i, i + 1);
                y.insert(1, i, i + 1);
            }
            dueAlike("all of " + count + " are the same", y, 0, 1, 1);
        }
    }

    private static void lettersFarApart() {
        int[][] pairs = {
            {1, -1}, {0, 256}, {0, 65536}, {0, Integer.MIN_VALUE}, {Integer.MIN_VALUE, Integer.MAX_VALUE}, {-1, 255}
        };
        for (int[] pair : pairs) {
            TextReplica x = new TextReplica();
            x.insert(0, 0, pair[0]);
            x.insert(1, 0, pair[1]);
            x.insert(2, 0, pair[0]);
            dueAlike(pair[0] + " and " + pair[1], x, 0, 1, 0);
            dueAlike(pair[0] + " twice", x, 0, 2, 1);
        }
    }

    private static void theSameLettersInAnotherOrder() {
        TextReplica x = new TextReplica();
        x.insert(0, 0, 1);
        x.insert(0, 1, 2);
        x.insert(1, 0, 2);
        x.insert(1, 1, 1);
        dueAlike("the same letters in another order", x, 0, 1, 0);
    }

    private static void theSameLettersFromOtherChanges() {
        TextReplica x = Starts.letters(0, 3);
        x.insert(1, 0, 3);
        x.insert(1, 0, 2);
        x.insert(1, 0, 1);
        dueAlike("the same letters from other changes", x, 0, 1, 1);
        dueAlike("an empty text beside them", x, 0, 2, 0);
    }

    private static void lettersTakenAwayDontCount() {
        TextReplica x = Starts.shared(3);
        x.delete(0, 1);
        dueAlike("a delete that one knows", x, 0, 1, 0);
        x.delete(1, 1);
        dueAlike("two deletes of one letter", x, 0, 1, 1);
        x.insert(2, 1, 2);
        x.delete(2, 2);
        Check.due("text of 2", Check.text(x, 2), "1 2 3");
        dueAlike("a letter put in anew", x, 0, 2, 0);
        x.delete(2, 1);
        dueAlike("the letter taken away again", x, 0, 2, 1);
        Check.due("row of 2", x.row(2), 4);
    }

    private static void wrongReplicas() {
        for (int wrong : Check.WRONG_REPLICAS) {
            for (int replica = 0; replica < 3; replica++) {
                int right = replica;
                Unmoved.due("alike(" + wrong + ", " + right + ")", Starts::spread, x -> x.alike(wrong, right), -1);
                Unmoved.due("alike(" + right + ", " + wrong + ")", Starts::spread, x -> x.alike(right, wrong), -1);
                Unmoved.due("alike of empty texts", TextReplica::new, x -> x.alike(wrong, right), -1);
            }
            Unmoved.due("alike(" + wrong + ", " + wrong + ")", Starts::spread, x -> x.alike(wrong, wrong), -1);
            Unmoved.due("alike(" + wrong + ", -1)", Starts::spread, x -> x.alike(wrong, -1), -1);
        }
    }
}
