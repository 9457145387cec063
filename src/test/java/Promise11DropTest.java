/** Promise 11, drop: the last SET, no SET, a full PILE. */
public final class Promise11DropTest {
    public static void main(String[] args) {
        Cases.runAll(Promise11DropTest.class);
    }

    @Case("IllegalStateException: there is none")
    static void withoutASetItIsRefused() {
        Trial.refused(x -> Trial.come(x, 0, 0, 1), SegmentIndex::drop, Trial.STATE);
    }

    @Case("IllegalStateException: there is none")
    static void behindTheLastItIsRefused() {
        Trial.refused(x -> {
            Trial.come(x, 0, 0, 1);
            x.term(15, 1, 0);
            x.drop();
        }, SegmentIndex::drop, Trial.STATE);
    }

    @Case("how many are left")
    static void ofOneNoneIsLeft() {
        SegmentIndex x = Trial.after(y -> Trial.come(y, 0, 0, 1));
        x.term(15, 1, 0);
        Check.due("drop", x::drop, 0);
        Check.due("SETS", () -> x.count(5), 0);
        Check.due("HITS", () -> x.count(6), 0);
        Check.due("documents", x::documents, 0);
        Check.due("hit", () -> x.hit(0, 0), Trial.NONE);
        Check.due("best", () -> x.best(0), Trial.NONE);
    }

    @Case("how many are left")
    static void anEmptySetIsASetToo() {
        SegmentIndex x = new SegmentIndex();
        Trial.pileUp(x, 1);
        Check.due("drop", x::drop, 0);
        Check.thrown("once more", x::drop, Trial.STATE);
    }

    @Case("how many are left")
    static void aFullPileGoesDownToNone() {
        SegmentIndex x = new SegmentIndex();
        Trial.pileUp(x, 8);
        for (int left = 7; left >= 0; left--) {
            Check.due("drop", x::drop, left);
        }
        Check.thrown("once more", x::drop, Trial.STATE);
    }

    @Case("The uppermost SET goes")
    static void theNextOneIsUppermostThen() {
        SegmentIndex x = Trial.after(Trial::some);
        Check.due("drop", x::drop, 2);
        Check.dueHits("the middle one", x);
        Check.due("drop", x::drop, 1);
        Check.dueHits("the lowest", x, 1, 1, 6, 6, 0, 8);
    }

    @Case("The uppermost SET goes")
    static void behindARefusedDropASetComesAsTheFirst() {
        SegmentIndex x = Trial.after(y -> Trial.come(y, 0, 0, 1));
        Check.thrown("drop", x::drop, Trial.STATE);
        x.term(15, 1, 0);
        Check.due("SETS", () -> x.count(5), 1);
        Check.dueHits("it", x, 0, 0, 0);
    }
}
