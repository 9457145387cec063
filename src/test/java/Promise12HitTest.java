/** Promise 12, hit: the first and the last HIT, those outside, each what and those outside, no SET. */
public final class Promise12HitTest {
    /** The uppermost set: document 1 at field 1, place 5; 2 at 2, 7; 5 at 0, 9. */
    private static final Trial.Steps SOME = Trial::some;

    public static void main(String[] args) {
        Cases.runAll(Promise12HitTest.class);
    }

    private static void none(Trial.Steps steps, int k, int what) {
        Trial.asked(steps, x -> x.hit(k, what), Trial.NONE);
    }

    private static void noneWhateverIsAsked(Trial.Steps steps, int k) {
        for (int what = 0; what <= 2; what++) {
            none(steps, k, what);
        }
    }

    @Case("its document (what = 0), FIELD (1), PLACE (2)")
    static void theFirst() {
        Trial.asked(SOME, x -> x.hit(0, 0), 1);
        Trial.asked(SOME, x -> x.hit(0, 1), 1);
        Trial.asked(SOME, x -> x.hit(0, 2), 5);
    }

    @Case("its document (what = 0), FIELD (1), PLACE (2)")
    static void theLast() {
        Trial.asked(SOME, x -> x.hit(2, 0), 5);
        Trial.asked(SOME, x -> x.hit(2, 1), 0);
        Trial.asked(SOME, x -> x.hit(2, 2), 9);
    }

    @Case("its document (what = 0), FIELD (1), PLACE (2)")
    static void theLeastHitOfAll() {
        Trial.Steps steps = x -> {
            Trial.come(x, 0, 0, 1);
            x.term(15, 1, 0);
        };
        Trial.asked(steps, x -> x.hit(0, 0), 0);
        Trial.asked(steps, x -> x.hit(0, 1), 0);
        Trial.asked(steps, x -> x.hit(0, 2), 0);
    }

    @Case("its document (what = 0), FIELD (1), PLACE (2)")
    static void theLastPlaceOfTheLastField() {
        Trial.Steps steps = x -> {
            Trial.comeEmpty(x, 300);
            Trial.come(x, 3, 4095, 1);
            x.term(15, 1, 0);
        };
        Trial.asked(steps, x -> x.hit(0, 0), 300);
        Trial.asked(steps, x -> x.hit(0, 1), 3);
        Trial.asked(steps, x -> x.hit(0, 2), 4095);
    }

    // It needs more than the 512 calls that the document speaks of: 600 documents are 600 calls.
    @Case("DOCUMENTS are numbered from 0 on as they come, at most 600")
    static void theGreatestHitOfAll() {
        SegmentIndex x = Trial.after(y -> Trial.comeEmpty(y, 599));
        Trial.come(x, 3, 4095, 1);
        x.term(15, 1, 0);
        Check.dueHits("it", x, 599, 3, 4095);
    }

    @Case("NONE if there is none such")
    static void beforeTheFirst() {
        noneWhateverIsAsked(SOME, -1);
    }

    @Case("NONE if there is none such")
    static void behindTheLast() {
        noneWhateverIsAsked(SOME, 3);
    }

    @Case("NONE if there is none such")
    static void theLeastInt() {
        noneWhateverIsAsked(SOME, Trial.LEAST);
    }

    @Case("NONE if there is none such")
    static void theGreatestInt() {
        noneWhateverIsAsked(SOME, Trial.GREATEST);
    }

    @Case("NONE if there is none such")
    static void withoutASet() {
        noneWhateverIsAsked(x -> Trial.come(x, 0, 0, 1), 0);
    }

    @Case("NONE if there is none such")
    static void inAnEmptySet() {
        noneWhateverIsAsked(x -> {
            Trial.come(x, 0, 0, 1);
            x.term(15, 1, 0);
            x.term(15, 99, 99);
        }, 0);
    }

    @Case("NONE if there is none such")
    static void whenTheSetWentAndNoneIsLeft() {
        noneWhateverIsAsked(x -> {
            Trial.come(x, 0, 0, 1);
            x.term(15, 1, 0);
            x.drop();
        }, 0);
    }

    @Case("NONE if there is none such")
    static void behindTheLastOfAShorterSetThanBefore() {
        noneWhateverIsAsked(x -> {
            Trial.comeTimes(x, 3, 1);
            Trial.come(x, 0, 0, 2);
            x.term(15, 1, 0);
            x.drop();
            x.term(15, 2, 0);
        }, 1);
    }

    @Case("NONE for another what")
    static void whatMinusOne() {
        none(SOME, 0, -1);
    }

    @Case("NONE for another what")
    static void whatThree() {
        none(SOME, 0, 3);
    }

    @Case("NONE for another what")
    static void whatTheLeastInt() {
        none(SOME, 0, Trial.LEAST);
    }

    @Case("NONE for another what")
    static void whatTheGreatestInt() {
        none(SOME, 0, Trial.GREATEST);
    }

    @Case("NONE if there is none such, or for another what")
    static void neitherHitNorWhat() {
        none(SOME, 3, 3);
        none(SOME, -1, -1);
    }

    @Case("Of the k-th HIT of the uppermost SET")
    static void theLastOf120() {
        Trial.Steps steps = x -> {
            Trial.holdTokens(x, 120);
            x.add();
            x.term(15, 1, 0);
        };
        SegmentIndex x = Trial.after(steps);
        Check.due("FIELD of the last", () -> x.hit(119, 1), 3);
        Check.due("PLACE of the last", () -> x.hit(119, 2), 29);
        Check.due("behind it", () -> x.hit(120, 2), Trial.NONE);
    }
}
