/** Promise 1, a new object: every call on one that has heard none before. */
public final class Promise01NewObjectTest {
    private static final Trial.Steps NEW = x -> { };

    public static void main(String[] args) {
        Cases.runAll(Promise01NewObjectTest.class);
    }

    @Case("NONE = -1: None")
    static void noneIsMinusOne() {
        Check.due("NONE", () -> SegmentIndex.NONE, -1);
    }

    @Case("No documents")
    static void noDocumentIsThere() {
        Trial.asked(NEW, x -> x.count(0), 0);
    }

    @Case("No documents")
    static void noDocumentCame() {
        Trial.asked(NEW, x -> x.count(1), 0);
    }

    @Case("No documents")
    static void bufferIsEmpty() {
        Trial.asked(NEW, x -> x.count(2), 0);
    }

    @Case("no TOKENS in hand")
    static void handIsEmpty() {
        Trial.asked(NEW, x -> x.count(3), 0);
    }

    @Case("No documents")
    static void noSegments() {
        Trial.asked(NEW, x -> x.count(4), 0);
    }

    @Case("the PILE is empty")
    static void noSets() {
        Trial.asked(NEW, x -> x.count(5), 0);
    }

    @Case("the PILE is empty")
    static void noHits() {
        Trial.asked(NEW, x -> x.count(6), 0);
    }

    @Case("No documents")
    static void noneIsTaken() {
        Trial.asked(NEW, x -> x.count(7), 0);
    }

    @Case("no TOKENS in hand")
    static void firstTokenIsTheOnlyOne() {
        Check.due("token", () -> new SegmentIndex().token(0, 0, 0, 0), 1);
    }

    @Case("DOCUMENTS are numbered from 0 on")
    static void firstDocumentIsZero() {
        Check.due("add", () -> new SegmentIndex().add(), 0);
    }

    @Case("No documents")
    static void noDocumentCanBeTaken() {
        Trial.refused(NEW, x -> Trial.taken(x, 0), Trial.INDEX);
    }

    @Case("No documents")
    static void flushMakesNoSegment() {
        Trial.asked(NEW, SegmentIndex::flush, 0);
    }

    @Case("No documents")
    static void packMakesNoSegment() {
        Trial.asked(NEW, SegmentIndex::pack, 0);
    }

    @Case("No documents")
    static void termFindsNothing() {
        Check.due("term", () -> new SegmentIndex().term(15, 0, 0), 0);
    }

    @Case("No documents")
    static void beginsFindsNothing() {
        Check.due("begins", () -> new SegmentIndex().begins(15, 0, 0, 0), 0);
    }

    @Case("the PILE is empty")
    static void followIsRefused() {
        Trial.refused(NEW, x -> x.follow(0, 0, 1), Trial.STATE);
    }

    @Case("the PILE is empty")
    static void joinIsRefused() {
        Trial.refused(NEW, x -> x.join(0), Trial.STATE);
    }

    @Case("the PILE is empty")
    static void dropIsRefused() {
        Trial.refused(NEW, SegmentIndex::drop, Trial.STATE);
    }

    @Case("the PILE is empty")
    static void hitIsNone() {
        Trial.asked(NEW, x -> x.hit(0, 0), Trial.NONE);
    }

    @Case("the PILE is empty")
    static void documentsAreZero() {
        Trial.asked(NEW, SegmentIndex::documents, 0);
    }

    @Case("the PILE is empty")
    static void bestIsNone() {
        Trial.asked(NEW, x -> x.best(0), Trial.NONE);
    }

    @Case("No documents")
    static void segmentIsNone() {
        Trial.asked(NEW, x -> x.segment(0, 0), Trial.NONE);
    }

    @Case("No documents, no TOKENS in hand, the PILE is empty")
    static void itIsNewWhateverAnotherOneHolds() {
        String alone = Trial.stateAfter(NEW);
        SegmentIndex other = Trial.after(Trial::some);
        Check.compare("the state", Trial.stateAfter(NEW), alone);
        Check.due("the other one's documents", () -> other.count(1), 7);
    }
}
