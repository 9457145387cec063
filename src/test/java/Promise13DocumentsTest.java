/** Promise 13, documents: no SET, an empty one, one document with all HITS, a document for each HIT. */
public final class Promise13DocumentsTest {
    public static void main(String[] args) {
        Cases.runAll(Promise13DocumentsTest.class);
    }

    private static void due(Trial.Steps steps, int want) {
        Trial.asked(steps, SegmentIndex::documents, want);
    }

    @Case("0 without")
    static void withoutASet() {
        due(x -> Trial.comeTimes(x, 3, 1), 0);
    }

    @Case("0 without")
    static void whenTheSetWentAndNoneIsLeft() {
        due(x -> {
            Trial.comeTimes(x, 3, 1);
            x.term(15, 1, 0);
            x.drop();
        }, 0);
    }

    @Case("How many different documents the uppermost SET has")
    static void anEmptySetHasNone() {
        due(x -> {
            Trial.comeTimes(x, 3, 1);
            x.term(15, 1, 0);
            x.term(15, 99, 99);
        }, 0);
    }

    @Case("How many different documents the uppermost SET has")
    static void oneHitIsOneDocument() {
        due(x -> {
            Trial.come(x, 0, 0, 1);
            x.term(15, 1, 0);
        }, 1);
    }

    @Case("How many different documents the uppermost SET has")
    static void manyHitsInOneDocumentAreOneDocument() {
        due(x -> {
            Trial.holdTokens(x, 120);
            x.add();
            x.term(15, 1, 0);
        }, 1);
    }

    @Case("How many different documents the uppermost SET has")
    static void aDocumentForEachHit() {
        due(x -> {
            Trial.comeTimes(x, 20, 1);
            x.term(15, 1, 0);
        }, 20);
    }

    @Case("How many different documents the uppermost SET has")
    static void twoDocumentsWithSeveralHitsEach() {
        due(x -> {
            Trial.holdTokens(x, 3);
            x.add();
            x.add();
            Trial.holdTokens(x, 2);
            x.add();
            x.term(15, 1, 0);
        }, 2);
    }

    @Case("How many different documents the uppermost SET has")
    static void neighboursThatMeetInTheLastAndTheFirstPlace() {
        due(x -> {
            Trial.come(x, 3, 4095, 1);
            Trial.come(x, 0, 0, 1);
            x.term(15, 1, 0);
        }, 2);
    }

    @Case("How many different documents the uppermost SET has")
    static void theSetBelowDoesNotCount() {
        due(x -> {
            Trial.comeTimes(x, 3, 1);
            Trial.come(x, 0, 0, 2);
            x.term(15, 1, 0);
            x.term(15, 2, 0);
        }, 1);
    }
}
