/** Promise 14, best: the first and the last, those outside, as many HITS, no SET. */
public final class Promise14BestTest {
    /** Documents 0 to 6 with 1, 3, none, 2, 3, 1 and 11 hits. */
    private static final Trial.Steps RANKED = x -> {
        for (int hits : new int[] {1, 3, 0, 2, 3, 1, 11}) {
            Trial.holdTokens(x, hits);
            x.add();
        }
        x.term(15, 1, 0);
    };

    public static void main(String[] args) {
        Cases.runAll(Promise14BestTest.class);
    }

    private static void due(Trial.Steps steps, int k, int want) {
        Trial.asked(steps, x -> x.best(k), want);
    }

    @Case("the most first")
    static void theFirstHasTheMost() {
        due(RANKED, 0, 6);
    }

    @Case("of as many the lower number")
    static void ofAsManyTheLowerNumberComesFirst() {
        due(RANKED, 1, 1);
        due(RANKED, 2, 4);
    }

    @Case("the most first")
    static void fewerHitsComeBehindThem() {
        due(RANKED, 3, 3);
    }

    @Case("of as many the lower number")
    static void theLastHasTheFewestAndTheHigherNumber() {
        due(RANKED, 4, 0);
        due(RANKED, 5, 5);
    }

    @Case("NONE if there is none")
    static void behindTheLastThereIsNone() {
        due(RANKED, 6, Trial.NONE);
    }

    @Case("NONE if there is none")
    static void beforeTheFirstThereIsNone() {
        due(RANKED, -1, Trial.NONE);
    }

    @Case("NONE if there is none")
    static void theLeastIntIsNone() {
        due(RANKED, Trial.LEAST, Trial.NONE);
    }

    @Case("NONE if there is none")
    static void theGreatestIntIsNone() {
        due(RANKED, Trial.GREATEST, Trial.NONE);
    }

    @Case("NONE if there is none")
    static void withoutASetThereIsNone() {
        due(x -> Trial.come(x, 0, 0, 1), 0, Trial.NONE);
    }

    @Case("NONE if there is none")
    static void inAnEmptySetThereIsNone() {
        due(x -> {
            Trial.come(x, 0, 0, 1);
            x.term(15, 1, 0);
            x.term(15, 99, 99);
        }, 0, Trial.NONE);
    }

    @Case("NONE if there is none")
    static void whenTheSetWentThereIsNone() {
        due(x -> {
            Trial.come(x, 0, 0, 1);
            x.term(15, 1, 0);
            x.drop();
        }, 0, Trial.NONE);
    }

    @Case("by how many HITS it has there")
    static void oneDocumentAlone() {
        Trial.Steps one = x -> {
            x.add();
            Trial.come(x, 3, 4095, 1);
            x.term(15, 1, 0);
        };
        due(one, 0, 1);
        due(one, 1, Trial.NONE);
    }

    @Case("by how many HITS it has there")
    static void a120thHitIsOneMore() {
        SegmentIndex x = new SegmentIndex();
        Trial.holdTokens(x, 119);
        x.add();
        Trial.holdTokens(x, 120);
        x.add();
        x.term(15, 1, 0);
        Check.due("best(0)", () -> x.best(0), 1);
        Check.due("best(1)", () -> x.best(1), 0);
        Check.due("best(2)", () -> x.best(2), Trial.NONE);
    }

    @Case("by how many HITS it has there")
    static void hitsThatAreNotInTheSetDoNotCount() {
        Trial.Steps steps = x -> {
            Trial.holdTokens(x, 3);
            x.token(0, 9, 2, 0);
            x.add();
            x.token(3, 8, 2, 0);
            x.token(3, 9, 2, 0);
            x.add();
            x.term(15, 1, 0);
            x.term(15, 2, 0);
        };
        due(steps, 0, 1);
        due(steps, 1, 0);
    }

    @Case("of as many the lower number")
    static void manyDocumentsWithAsManyHitsStandInTheirOrder() {
        SegmentIndex x = Trial.after(y -> Trial.comeTimes(y, 100, 1));
        x.term(15, 1, 0);
        for (int k = 0; k < 100; k++) {
            int asked = k;
            Check.due("best(" + k + ")", () -> x.best(asked), k);
        }
        Check.due("best(100)", () -> x.best(100), Trial.NONE);
    }

    // It needs more than the 512 calls that the document speaks of: 600 documents are 600 calls.
    @Case("DOCUMENTS are numbered from 0 on as they come, at most 600")
    static void theGreatestNumberOfAll() {
        SegmentIndex x = Trial.after(y -> Trial.comeTimes(y, 1, 1));
        Trial.comeEmpty(x, 598);
        Trial.holdTokens(x, 2);
        x.add();
        x.term(15, 1, 0);
        Check.due("best(0)", () -> x.best(0), 599);
        Check.due("best(1)", () -> x.best(1), 0);
    }
}
