/** Promise 9, follow: n from 1 to 100 and outside, the ends of a FIELD, and an empty PILE or SET. */
public final class Promise09FollowTest {
    public static void main(String[] args) {
        Cases.runAll(Promise09FollowTest.class);
    }

    /** One document, word 1 at one spot and word 2 at another: word 2 follows, or it does not. */
    private static void follows(int field, int place, int otherField, int otherPlace, int n, boolean due) {
        SegmentIndex x = new SegmentIndex();
        x.token(field, place, 1, 0);
        x.token(otherField, otherPlace, 2, 0);
        x.add();
        x.term(15, 1, 0);
        Check.due("follow", () -> x.follow(2, 0, n), due ? 1 : 0);
        if (due) {
            Check.dueHits("found", x, 0, otherField, otherPlace);
        } else {
            Check.dueHits("found", x);
        }
        Check.due("SETS", () -> x.count(5), 1);
    }

    private static void noSuch(int n) {
        Trial.refused(Trial::some, x -> x.follow(1, 0, n), Trial.ARGUMENT);
    }

    private static void refusedOnAnEmptyPile(int n) {
        Trial.refused(x -> Trial.come(x, 0, 0, 1), x -> x.follow(1, 0, n), Trial.STATE);
    }

    @Case("n is not 1 .. 100")
    static void oneIsTheLeastDistance() {
        follows(1, 50, 1, 51, 1, true);
    }

    @Case("n is not 1 .. 100")
    static void aHundredIsTheGreatestDistance() {
        follows(1, 50, 1, 150, 100, true);
    }

    @Case("IllegalArgumentException: n is not 1 .. 100")
    static void zeroIsRefused() {
        noSuch(0);
    }

    @Case("IllegalArgumentException: n is not 1 .. 100")
    static void minusOneIsRefused() {
        noSuch(-1);
    }

    @Case("IllegalArgumentException: n is not 1 .. 100")
    static void aHundredAndOneIsRefused() {
        noSuch(101);
    }

    @Case("IllegalArgumentException: n is not 1 .. 100")
    static void theLeastIntIsRefused() {
        noSuch(Trial.LEAST);
    }

    @Case("IllegalArgumentException: n is not 1 .. 100")
    static void theGreatestIntIsRefused() {
        noSuch(Trial.GREATEST);
    }

    @Case("IllegalStateException: the PILE is empty")
    static void anEmptyPileIsRefused() {
        refusedOnAnEmptyPile(1);
        refusedOnAnEmptyPile(100);
    }

    @Case("IllegalStateException: the PILE is empty (this first)")
    static void anEmptyPileIsToldBeforeAWrongN() {
        refusedOnAnEmptyPile(0);
        refusedOnAnEmptyPile(101);
        refusedOnAnEmptyPile(Trial.LEAST);
        refusedOnAnEmptyPile(Trial.GREATEST);
    }

    @Case("IllegalStateException: the PILE is empty")
    static void aPileThatBecameEmptyIsRefused() {
        Trial.refused(x -> {
            Trial.come(x, 0, 0, 1);
            x.term(15, 1, 0);
            x.drop();
        }, x -> x.follow(1, 0, 1), Trial.STATE);
    }

    @Case("that are n PLACES behind one of its HITS")
    static void onePlaceTooFew() {
        follows(1, 50, 1, 51, 2, false);
        follows(1, 50, 1, 149, 100, false);
    }

    @Case("that are n PLACES behind one of its HITS")
    static void onePlaceTooMany() {
        follows(1, 50, 1, 52, 1, false);
        follows(1, 50, 1, 151, 100, false);
    }

    @Case("that are n PLACES behind one of its HITS")
    static void thereIsNotBehind() {
        follows(1, 50, 1, 50, 1, false);
    }

    @Case("that are n PLACES behind one of its HITS")
    static void aheadIsNotBehind() {
        follows(1, 50, 1, 49, 1, false);
        follows(1, 150, 1, 50, 100, false);
    }

    @Case("in the same FIELD")
    static void anotherFieldIsNotTheSame() {
        follows(1, 50, 2, 51, 1, false);
        follows(2, 50, 1, 51, 1, false);
    }

    @Case("in the same FIELD")
    static void theFirstAndTheLastFieldEachFollowInThemselves() {
        follows(0, 0, 0, 1, 1, true);
        follows(3, 0, 3, 1, 1, true);
    }

    @Case("a PLACE 0 .. 4095")
    static void theFirstPlaceIsFollowed() {
        follows(2, 0, 2, 1, 1, true);
        follows(2, 0, 2, 100, 100, true);
    }

    @Case("a PLACE 0 .. 4095")
    static void theLastPlaceFollows() {
        follows(2, 4094, 2, 4095, 1, true);
        follows(2, 3995, 2, 4095, 100, true);
    }

    @Case("in the same FIELD")
    static void behindTheLastPlaceTheNextFieldDoesNotBegin() {
        follows(0, 4095, 1, 0, 1, false);
        follows(0, 3996, 1, 0, 100, false);
        follows(2, 4095, 3, 99, 100, false);
    }

    @Case("in the same FIELD")
    static void behindTheLastPlaceTheSameFieldDoesNotBeginAgain() {
        follows(0, 4095, 0, 0, 1, false);
        follows(3, 3996, 3, 0, 100, false);
    }

    @Case("that are n PLACES behind one of its HITS, in the same FIELD")
    static void behindTheLastFieldTheNextDocumentDoesNotBegin() {
        SegmentIndex x = new SegmentIndex();
        Trial.come(x, 3, 4095, 1);
        Trial.come(x, 0, 0, 2);
        x.term(15, 1, 0);
        Check.due("follow", () -> x.follow(2, 0, 1), 0);
    }

    @Case("that are n PLACES behind one of its HITS")
    static void anotherDocumentDoesNotFollow() {
        SegmentIndex x = new SegmentIndex();
        Trial.come(x, 0, 5, 1);
        Trial.come(x, 0, 6, 2);
        x.term(15, 1, 0);
        Check.due("follow", () -> x.follow(2, 0, 1), 0);
    }

    @Case("the HITS of a TERM")
    static void anotherTermDoesNotFollow() {
        SegmentIndex x = new SegmentIndex();
        x.token(0, 5, 1, 0);
        x.token(0, 6, 2, 1);
        x.token(0, 6, 3, 0);
        x.add();
        x.term(15, 1, 0);
        Check.due("follow", () -> x.follow(2, 0, 1), 0);
    }

    @Case("the HITS of a TERM")
    static void aTermOfLeastAndGreatestIntsFollows() {
        SegmentIndex x = new SegmentIndex();
        x.token(0, 5, 1, 0);
        x.token(0, 6, Trial.LEAST, Trial.GREATEST);
        x.add();
        x.term(15, 1, 0);
        x.follow(Trial.LEAST, Trial.GREATEST, 1);
        Check.dueHits("found", x, 0, 0, 6);
    }

    @Case("the HITS of a TERM that are n PLACES behind one of its HITS")
    static void aTermFollowsItself() {
        SegmentIndex x = new SegmentIndex();
        for (int place = 5; place <= 8; place++) {
            x.token(1, place, 1, 0);
        }
        x.add();
        x.term(15, 1, 0);
        Check.due("follow", () -> x.follow(1, 0, 1), 3);
        Check.dueHits("found", x, 0, 1, 6, 0, 1, 7, 0, 1, 8);
        Check.due("and on from there", () -> x.follow(1, 0, 2), 1);
        Check.dueHits("found", x, 0, 1, 8);
    }

    @Case("behind one of its HITS, in the same FIELD")
    static void onlyFieldsOfTheSetAreFollowed() {
        SegmentIndex x = new SegmentIndex();
        for (int field = 0; field < 4; field++) {
            x.token(field, 5, 1, 0);
            x.token(field, 6, 2, 0);
        }
        x.add();
        x.term(4, 1, 0);
        x.follow(2, 0, 1);
        Check.dueHits("one field", x, 0, 2, 6);
        x.term(15, 1, 0);
        x.follow(2, 0, 1);
        Check.dueHits("all fields", x, 0, 0, 6, 0, 1, 6, 0, 2, 6, 0, 3, 6);
    }

    @Case("The uppermost SET becomes the HITS")
    static void anEmptySetStaysEmptyOnThePile() {
        SegmentIndex x = Trial.after(y -> Trial.come(y, 0, 5, 1));
        Trial.pileUp(x, 1);
        Check.due("follow", () -> x.follow(1, 0, 1), 0);
        Check.due("SETS", () -> x.count(5), 1);
    }

    @Case("The uppermost SET becomes the HITS")
    static void theSetsBelowStay() {
        SegmentIndex x = Trial.after(Trial::some);
        Check.due("follow", () -> x.follow(1, 0, 1), 1);
        Check.dueHits("the uppermost", x, 1, 1, 6);
        Check.due("SETS", () -> x.count(5), 3);
        x.drop();
        Check.dueHits("the middle one", x);
        x.drop();
        Check.dueHits("the lowest", x, 1, 1, 6, 6, 0, 8);
    }

    @Case("The uppermost SET becomes the HITS")
    static void aFullPileIsNoHindrance() {
        SegmentIndex x = Trial.after(Trial::some);
        Trial.pileUp(x, 4);
        x.term(15, 2, 0);
        Check.due("follow", () -> x.follow(1, 0, 1), 1);
        Check.due("SETS", () -> x.count(5), 8);
        Check.dueHits("the uppermost", x, 1, 1, 6);
        x.drop();
        Check.dueHits("the next", x);
    }

    @Case("the HITS of a TERM")
    static void whatIsInHandDoesNotFollow() {
        SegmentIndex x = Trial.after(y -> Trial.come(y, 0, 5, 1));
        x.token(0, 6, 2, 0);
        x.term(15, 1, 0);
        Check.due("follow", () -> x.follow(2, 0, 1), 0);
    }
}
