/** Promise 10, join: each how, its neighbours outside, ten places and eleven, empty SETS, too few SETS. */
public final class Promise10JoinTest {
    private static final int[] EMPTY = {};

    public static void main(String[] args) {
        Cases.runAll(Promise10JoinTest.class);
    }

    /** Word 1 in documents 0, 1, 2; word 2 in documents 1, 2, 3; both at one place of document 2. */
    private static SegmentIndex words() {
        SegmentIndex x = new SegmentIndex();
        Trial.come(x, 0, 5, 1);
        x.token(1, 6, 1, 0);
        x.token(0, 9, 2, 0);
        x.token(3, 9, 2, 0);
        x.add();
        x.flush();
        x.token(2, 7, 1, 0);
        x.token(2, 7, 2, 0);
        x.add();
        Trial.come(x, 0, 5, 2);
        return x;
    }

    private static void joined(int lower, int upper, int how, int... want) {
        SegmentIndex x = words();
        x.term(15, lower, 0);
        x.term(15, upper, 0);
        Check.due("join", () -> x.join(how), want.length / 3);
        Check.dueHits("the SET", x, want);
        Check.due("SETS", () -> x.count(5), 1);
    }

    /** One document: whether word 2 at one spot has word 1 near it at another. */
    private static void near(int field, int place, int otherField, int otherPlace, boolean due) {
        SegmentIndex x = new SegmentIndex();
        x.token(field, place, 2, 0);
        x.token(otherField, otherPlace, 1, 0);
        x.add();
        x.term(15, 1, 0);
        x.term(15, 2, 0);
        Check.due("join", () -> x.join(3), due ? 1 : 0);
        Check.dueHits("the SET", x, due ? new int[] {0, field, place} : EMPTY);
    }

    private static void noSuch(int how) {
        Trial.refused(Trial::some, x -> x.join(how), Trial.ARGUMENT);
    }

    private static void refusedWith(int sets, int how) {
        Trial.refused(x -> {
            Trial.come(x, 0, 0, 1);
            for (int i = 0; i < sets; i++) {
                x.term(15, 1, 0);
            }
        }, x -> x.join(how), Trial.STATE);
    }

    @Case("0 those of both in documents that are in both")
    static void howZeroKeepsDocumentsOfBoth() {
        joined(1, 2, 0, 1, 0, 9, 1, 1, 6, 1, 3, 9, 2, 2, 7);
        joined(2, 1, 0, 1, 0, 9, 1, 1, 6, 1, 3, 9, 2, 2, 7);
    }

    @Case("0 those of both in documents that are in both")
    static void howZeroWithAnEmptySetIsEmpty() {
        joined(1, 9, 0);
        joined(9, 1, 0);
        joined(9, 9, 0);
    }

    @Case("0 those of both in documents that are in both")
    static void howZeroOfASetWithItselfIsTheSet() {
        joined(1, 1, 0, 0, 0, 5, 1, 1, 6, 2, 2, 7);
    }

    @Case("1 all of both")
    static void howOneKeepsAll() {
        joined(1, 2, 1, 0, 0, 5, 1, 0, 9, 1, 1, 6, 1, 3, 9, 2, 2, 7, 3, 0, 5);
        joined(2, 1, 1, 0, 0, 5, 1, 0, 9, 1, 1, 6, 1, 3, 9, 2, 2, 7, 3, 0, 5);
    }

    @Case("1 all of both")
    static void howOneWithAnEmptySetIsTheOther() {
        joined(1, 9, 1, 0, 0, 5, 1, 1, 6, 2, 2, 7);
        joined(9, 1, 1, 0, 0, 5, 1, 1, 6, 2, 2, 7);
        joined(9, 9, 1);
    }

    @Case("1 all of both")
    static void howOneOfASetWithItselfIsTheSet() {
        joined(1, 1, 1, 0, 0, 5, 1, 1, 6, 2, 2, 7);
    }

    @Case("2 those of x in documents that are not in y")
    static void howTwoKeepsDocumentsOfTheLowerAlone() {
        joined(1, 2, 2, 0, 0, 5);
        joined(2, 1, 2, 3, 0, 5);
    }

    @Case("2 those of x in documents that are not in y")
    static void howTwoWithAnEmptySetAboveIsTheLower() {
        joined(1, 9, 2, 0, 0, 5, 1, 1, 6, 2, 2, 7);
    }

    @Case("2 those of x in documents that are not in y")
    static void howTwoWithAnEmptySetBelowIsEmpty() {
        joined(9, 1, 2);
        joined(9, 9, 2);
    }

    @Case("2 those of x in documents that are not in y")
    static void howTwoOfASetWithItselfIsEmpty() {
        joined(1, 1, 2);
    }

    /** One document with word 1 in the midst of it and word 2 at this spot alone: it is in both. */
    private static void inBothBySpot(int field, int place) {
        SegmentIndex x = new SegmentIndex();
        x.token(1, 50, 1, 0);
        x.token(field, place, 2, 0);
        x.add();
        x.term(15, 1, 0);
        x.term(15, 2, 0);
        Check.due("how 0", () -> x.join(0), 2);
        x.term(15, 1, 0);
        x.term(15, 2, 0);
        Check.due("how 2", () -> x.join(2), 0);
        x.term(15, 2, 0);
        x.term(15, 1, 0);
        Check.due("how 2, the other way", () -> x.join(2), 0);
    }

    @Case("documents that are in both")
    static void aDocumentIsInASetByItsFirstPlaceAlone() {
        inBothBySpot(0, 0);
    }

    @Case("documents that are in both")
    static void aDocumentIsInASetByItsLastPlaceAlone() {
        inBothBySpot(3, 4095);
    }

    @Case("documents that are in both, documents that are not in y")
    static void neighboursThatMeetInTheLastAndTheFirstPlaceAreTwo() {
        SegmentIndex x = new SegmentIndex();
        Trial.come(x, 3, 4095, 1);
        Trial.come(x, 0, 0, 2);
        x.term(15, 1, 0);
        x.term(15, 2, 0);
        Check.due("how 0", () -> x.join(0), 0);
        x.term(15, 1, 0);
        x.term(15, 2, 0);
        Check.due("how 2", () -> x.join(2), 1);
        Check.dueHits("the lower one's", x, 0, 3, 4095);
        x.term(15, 2, 0);
        x.term(15, 1, 0);
        Check.due("how 2, the other way", () -> x.join(2), 1);
        Check.dueHits("the lower one's", x, 1, 0, 0);
    }

    @Case("3 those of y")
    static void howThreeKeepsHitsOfTheUpperAlone() {
        SegmentIndex x = new SegmentIndex();
        x.token(1, 20, 1, 0);
        x.token(1, 22, 2, 0);
        x.token(1, 24, 2, 0);
        x.add();
        x.term(15, 1, 0);
        x.term(15, 2, 0);
        Check.due("join", () -> x.join(3), 2);
        Check.dueHits("the SET", x, 0, 1, 22, 0, 1, 24);
        x.term(15, 1, 0);
        Check.due("the other way", () -> x.join(3), 1);
        Check.dueHits("the SET", x, 0, 1, 20);
    }

    @Case("3 those of y that have one of x")
    static void howThreeWithAnEmptySetIsEmpty() {
        joined(1, 9, 3);
        joined(9, 1, 3);
        joined(9, 9, 3);
    }

    @Case("3 those of y that have one of x there")
    static void howThreeOfASetWithItselfIsTheSet() {
        joined(1, 1, 3, 0, 0, 5, 1, 1, 6, 2, 2, 7);
    }

    @Case("or there")
    static void atTheSamePlaceItIsNear() {
        near(1, 50, 1, 50, true);
    }

    @Case("at most 10 PLACES ahead")
    static void tenPlacesAheadAreNear() {
        near(1, 50, 1, 40, true);
    }

    @Case("at most 10 PLACES ahead")
    static void elevenPlacesAheadAreNot() {
        near(1, 50, 1, 39, false);
    }

    @Case("at most 10 PLACES behind")
    static void tenPlacesBehindAreNear() {
        near(1, 50, 1, 60, true);
    }

    @Case("at most 10 PLACES behind")
    static void elevenPlacesBehindAreNot() {
        near(1, 50, 1, 61, false);
    }

    @Case("at most 10 PLACES ahead, or behind")
    static void onePlaceAheadOrBehindIsNear() {
        near(1, 50, 1, 49, true);
        near(1, 50, 1, 51, true);
    }

    @Case("in the same FIELD")
    static void thereInAnotherFieldIsNot() {
        near(1, 50, 2, 50, false);
        near(1, 50, 0, 50, false);
    }

    @Case("in the same FIELD")
    static void theEndOfTheFieldBeforeIsNot() {
        near(1, 0, 0, 4095, false);
        near(1, 9, 0, 4095, false);
    }

    @Case("in the same FIELD")
    static void theBeginningOfTheNextFieldIsNot() {
        near(1, 4095, 2, 0, false);
        near(1, 4090, 2, 4, false);
    }

    @Case("in the same FIELD")
    static void theOtherEndOfTheSameFieldIsNot() {
        near(3, 4095, 3, 0, false);
        near(0, 0, 0, 4095, false);
    }

    @Case("a PLACE 0 .. 4095")
    static void nearTheFirstPlace() {
        near(0, 0, 0, 10, true);
        near(0, 10, 0, 0, true);
        near(0, 0, 0, 11, false);
        near(0, 11, 0, 0, false);
    }

    @Case("a PLACE 0 .. 4095")
    static void nearTheLastPlace() {
        near(3, 4095, 3, 4085, true);
        near(3, 4085, 3, 4095, true);
        near(3, 4095, 3, 4084, false);
        near(3, 4084, 3, 4095, false);
    }

    @Case("3 those of y that have one of x in the same FIELD")
    static void anotherDocumentIsNot() {
        SegmentIndex x = new SegmentIndex();
        Trial.come(x, 3, 4095, 1);
        x.token(3, 4095, 2, 0);
        x.token(0, 0, 2, 0);
        x.add();
        x.term(15, 1, 0);
        x.term(15, 2, 0);
        Check.due("join", () -> x.join(3), 0);
    }

    @Case("IllegalArgumentException: no such how")
    static void minusOneIsRefused() {
        noSuch(-1);
    }

    @Case("IllegalArgumentException: no such how")
    static void fourIsRefused() {
        noSuch(4);
    }

    @Case("IllegalArgumentException: no such how")
    static void theLeastIntIsRefused() {
        noSuch(Trial.LEAST);
    }

    @Case("IllegalArgumentException: no such how")
    static void theGreatestIntIsRefused() {
        noSuch(Trial.GREATEST);
    }

    @Case("IllegalStateException: there are not two")
    static void withoutASetItIsRefused() {
        for (int how = 0; how <= 3; how++) {
            refusedWith(0, how);
        }
    }

    @Case("IllegalStateException: there are not two")
    static void withOneSetItIsRefused() {
        for (int how = 0; how <= 3; how++) {
            refusedWith(1, how);
        }
    }

    @Case("IllegalStateException: there are not two (this first)")
    static void withoutASetThatIsToldBeforeAWrongHow() {
        refusedWith(0, -1);
        refusedWith(0, 4);
        refusedWith(0, Trial.LEAST);
        refusedWith(0, Trial.GREATEST);
    }

    @Case("IllegalStateException: there are not two (this first)")
    static void withOneSetThatIsToldBeforeAWrongHow() {
        refusedWith(1, -1);
        refusedWith(1, 4);
        refusedWith(1, Trial.LEAST);
        refusedWith(1, Trial.GREATEST);
    }

    @Case("The two uppermost SETS become one")
    static void twoSetsAreEnough() {
        SegmentIndex x = new SegmentIndex();
        Trial.pileUp(x, 2);
        Check.due("join", () -> x.join(1), 0);
        Check.due("SETS", () -> x.count(5), 1);
        Check.thrown("one is not", () -> x.join(1), Trial.STATE);
    }

    @Case("The two uppermost SETS become one")
    static void theSetsBelowStay() {
        SegmentIndex x = Trial.after(Trial::some);
        Check.due("join", () -> x.join(1), 3);
        Check.dueHits("the uppermost", x, 1, 1, 5, 2, 2, 7, 5, 0, 9);
        Check.due("SETS", () -> x.count(5), 2);
        x.drop();
        Check.dueHits("the lowest", x, 1, 1, 6, 6, 0, 8);
    }

    @Case("The two uppermost SETS become one")
    static void aFullPileIsJoinedDownToOne() {
        SegmentIndex x = new SegmentIndex();
        for (int word = 0; word < 8; word++) {
            x.token(0, word, word, 0);
        }
        x.add();
        for (int word = 0; word < 8; word++) {
            x.term(15, word, 0);
        }
        for (int sets = 7; sets >= 1; sets--) {
            int hits = 9 - sets;
            int left = sets;
            Check.due("join", () -> x.join(1), hits);
            Check.due("SETS", () -> x.count(5), left);
        }
        Check.dueHits("all", x, 0, 0, 0, 0, 0, 1, 0, 0, 2, 0, 0, 3, 0, 0, 4, 0, 0, 5, 0, 0, 6, 0, 0, 7);
    }
}
