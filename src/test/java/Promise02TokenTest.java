/** Promise 2, token: the ends of FIELDS and PLACES, the 120th and the 121st, one that it has already. */
public final class Promise02TokenTest {
    private static final Trial.Steps FULL = x -> Trial.holdTokens(x, 120);

    public static void main(String[] args) {
        Cases.runAll(Promise02TokenTest.class);
    }

    /** The one token that comes is found where it was put, and nowhere else. */
    private static void foundAt(int field, int place) {
        SegmentIndex x = new SegmentIndex();
        Check.due("token", () -> x.token(field, place, 1, 0), 1);
        x.add();
        x.term(15, 1, 0);
        Check.dueHits("found", x, 0, field, place);
    }

    private static void noSuch(int field, int place) {
        Trial.refused(Trial::some, x -> x.token(field, place, 1, 0), Trial.ARGUMENT);
    }

    @Case("a FIELD 0 .. 3")
    static void fieldZeroIsTheFirst() {
        foundAt(0, 7);
    }

    @Case("a FIELD 0 .. 3")
    static void fieldThreeIsTheLast() {
        foundAt(3, 7);
    }

    @Case("IllegalArgumentException: no such FIELD")
    static void fieldMinusOneIsRefused() {
        noSuch(-1, 0);
    }

    @Case("IllegalArgumentException: no such FIELD")
    static void fieldFourIsRefused() {
        noSuch(4, 0);
    }

    @Case("IllegalArgumentException: no such FIELD")
    static void leastIntIsNoField() {
        noSuch(Trial.LEAST, 0);
    }

    @Case("IllegalArgumentException: no such FIELD")
    static void greatestIntIsNoField() {
        noSuch(Trial.GREATEST, 0);
    }

    @Case("a PLACE 0 .. 4095")
    static void placeZeroIsTheFirst() {
        foundAt(2, 0);
    }

    @Case("a PLACE 0 .. 4095")
    static void place4095IsTheLast() {
        foundAt(2, 4095);
    }

    @Case("a FIELD 0 .. 3, a PLACE 0 .. 4095")
    static void lastPlaceOfTheLastField() {
        foundAt(3, 4095);
    }

    @Case("IllegalArgumentException: no such PLACE")
    static void placeMinusOneIsRefused() {
        noSuch(1, -1);
    }

    @Case("IllegalArgumentException: no such PLACE")
    static void place4096IsRefused() {
        noSuch(1, 4096);
    }

    @Case("IllegalArgumentException: no such PLACE")
    static void leastIntIsNoPlace() {
        noSuch(1, Trial.LEAST);
    }

    @Case("IllegalArgumentException: no such PLACE")
    static void greatestIntIsNoPlace() {
        noSuch(1, Trial.GREATEST);
    }

    @Case("IllegalArgumentException: no such FIELD or PLACE")
    static void neitherFieldNorPlaceIsRefused() {
        noSuch(4, 4096);
    }

    @Case("IllegalArgumentException: no such FIELD or PLACE")
    static void refusedAsTheFirstTokenLeavesTheHandEmpty() {
        Trial.refused(x -> { }, x -> x.token(0, 4096, 1, 0), Trial.ARGUMENT);
    }

    @Case("A TERM is eight bytes, told as two ints")
    static void leastAndGreatestIntsAreATerm() {
        SegmentIndex x = new SegmentIndex();
        Check.due("least, greatest", () -> x.token(0, 1, Trial.LEAST, Trial.GREATEST), 1);
        Check.due("greatest, least", () -> x.token(0, 2, Trial.GREATEST, Trial.LEAST), 2);
        x.add();
        x.term(15, Trial.LEAST, Trial.GREATEST);
        Check.dueHits("least, greatest", x, 0, 0, 1);
        x.term(15, Trial.GREATEST, Trial.LEAST);
        Check.dueHits("greatest, least", x, 0, 0, 2);
    }

    @Case("how many it has")
    static void eachOneMakesOneMore() {
        SegmentIndex x = new SegmentIndex();
        Check.due("the first", () -> x.token(3, 9, 1, 0), 1);
        Check.due("the second", () -> x.token(2, 9, 1, 0), 2);
        Check.due("the third", () -> x.token(2, 8, 1, 0), 3);
    }

    @Case("one that it has already is not one more")
    static void theSameAgainIsNotOneMore() {
        Trial.asked(x -> x.token(1, 2, 3, 0), x -> x.token(1, 2, 3, 0), 1);
    }

    @Case("one that it has already is not one more")
    static void theSameAgainAmongOthersIsNotOneMore() {
        Trial.Steps five = x -> {
            for (int word : new int[] {5, 1, 3, 2, 4}) {
                x.token(1, 2, word, 0);
            }
        };
        for (int word = 1; word <= 5; word++) {
            int again = word;
            Trial.asked(five, x -> x.token(1, 2, again, 0), 5);
        }
    }

    @Case("one that it has already is not one more")
    static void leastIntsAgainAreNotOneMore() {
        Trial.asked(x -> x.token(0, 0, Trial.LEAST, Trial.LEAST), x -> x.token(0, 0, Trial.LEAST, Trial.LEAST), 1);
    }

    private static void oneMore(int field, int place, int a, int b) {
        SegmentIndex x = Trial.after(y -> y.token(1, 2, 3, 4));
        Check.due("token", () -> x.token(field, place, a, b), 2);
    }

    @Case("TOKENS: a FIELD, a PLACE, a TERM")
    static void anotherFieldIsOneMore() {
        oneMore(2, 2, 3, 4);
    }

    @Case("TOKENS: a FIELD, a PLACE, a TERM")
    static void anotherPlaceIsOneMore() {
        oneMore(1, 3, 3, 4);
    }

    @Case("TOKENS: a FIELD, a PLACE, a TERM")
    static void anotherFirstIntIsOneMore() {
        oneMore(1, 2, 4, 4);
    }

    @Case("TOKENS: a FIELD, a PLACE, a TERM")
    static void anotherSecondIntIsOneMore() {
        oneMore(1, 2, 3, 3);
    }

    @Case("TOKENS: a FIELD, a PLACE, a TERM")
    static void theIntsTurnedRoundAreOneMore() {
        oneMore(1, 2, 4, 3);
    }

    @Case("A TERM is eight bytes, told as two ints")
    static void aSecondIntBelowZeroDoesNotReachTheFirst() {
        SegmentIndex x = new SegmentIndex();
        Check.due("0, -1", () -> x.token(0, 0, 0, -1), 1);
        Check.due("-1, -1", () -> x.token(0, 0, -1, -1), 2);
        Check.due("-1, 0", () -> x.token(0, 0, -1, 0), 3);
        Check.due("0, 0", () -> x.token(0, 0, 0, 0), 4);
    }

    @Case("at most 120 of these")
    static void the120thComes() {
        SegmentIndex x = Trial.after(y -> Trial.holdTokens(y, 119));
        Check.due("token", () -> x.token(3, 4095, 1, 0), 120);
        Check.due("TOKENS in hand", () -> x.count(3), 120);
    }

    @Case("IllegalStateException: it would be the 121st")
    static void the121stIsRefused() {
        Trial.refused(FULL, x -> x.token(0, 30, 1, 0), Trial.STATE);
    }

    @Case("IllegalStateException: it would be the 121st")
    static void the121stIsRefusedWithAnotherTermAtATakenPlace() {
        Trial.refused(FULL, x -> x.token(0, 0, 2, 0), Trial.STATE);
    }

    @Case("IllegalStateException: it would be the 121st")
    static void the121stIsRefusedAtTheVeryEnd() {
        Trial.refused(FULL, x -> x.token(3, 4095, Trial.GREATEST, Trial.GREATEST), Trial.STATE);
    }

    @Case("one that it has already is not one more")
    static void theFirstOf120AgainIsNot121st() {
        Trial.asked(FULL, x -> x.token(0, 0, 1, 0), 120);
    }

    @Case("one that it has already is not one more")
    static void theLastOf120AgainIsNot121st() {
        Trial.asked(FULL, x -> x.token(3, 29, 1, 0), 120);
    }

    @Case("IllegalArgumentException: no such FIELD or PLACE; else IllegalStateException")
    static void with120AWrongFieldIsToldFirst() {
        Trial.refused(FULL, x -> x.token(4, 30, 1, 0), Trial.ARGUMENT);
        Trial.refused(FULL, x -> x.token(-1, 30, 1, 0), Trial.ARGUMENT);
    }

    @Case("IllegalArgumentException: no such FIELD or PLACE; else IllegalStateException")
    static void with120AWrongPlaceIsToldFirst() {
        Trial.refused(FULL, x -> x.token(0, 4096, 1, 0), Trial.ARGUMENT);
        Trial.refused(FULL, x -> x.token(0, -1, 1, 0), Trial.ARGUMENT);
    }

    @Case("A TOKEN comes to the document in hand")
    static void theNextDocumentBeginsWithOne() {
        SegmentIndex x = Trial.after(y -> Trial.come(y, 0, 0, 1));
        Check.due("the same token", () -> x.token(0, 0, 1, 0), 1);
    }

    @Case("each has TOKENS, at most 120 of these")
    static void theNextDocumentHas120Too() {
        SegmentIndex x = Trial.after(FULL);
        x.add();
        Trial.holdTokens(x, 119);
        Check.due("the 120th", () -> x.token(3, 29, 1, 0), 120);
        Check.thrown("the 121st", () -> x.token(0, 30, 1, 0), Trial.STATE);
        x.add();
        x.flush();
        Check.dueSegment("both", x, 0, 0, 2, 1, 240);
    }
}
