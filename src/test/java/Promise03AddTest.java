/** Promise 3, add: the numbers, the full buffer, and the 600th document. */
public final class Promise03AddTest {
    public static void main(String[] args) {
        Cases.runAll(Promise03AddTest.class);
    }

    @Case("DOCUMENTS are numbered from 0 on as they come")
    static void theFirstIsZero() {
        SegmentIndex x = new SegmentIndex();
        Check.due("add", x::add, 0);
    }

    @Case("DOCUMENTS are numbered from 0 on as they come")
    static void eachIsOneMore() {
        SegmentIndex x = new SegmentIndex();
        for (int i = 0; i < 30; i++) {
            Check.due("add", x::add, i);
        }
        Check.due("that came", () -> x.count(1), 30);
    }

    @Case("DOCUMENTS are numbered from 0 on as they come")
    static void aNumberTakenInTheBufferIsNotGivenAgain() {
        SegmentIndex x = Trial.after(y -> Trial.comeEmpty(y, 1));
        x.take(0);
        Check.due("add", x::add, 1);
    }

    @Case("DOCUMENTS are numbered from 0 on as they come")
    static void aNumberThatWasPackedAwayIsNotGivenAgain() {
        SegmentIndex x = Trial.after(y -> Trial.comeEmpty(y, 2));
        x.flush();
        x.take(0);
        x.take(1);
        x.pack();
        Check.due("add", x::add, 2);
    }

    @Case("The document in hand, which is empty then")
    static void theHandIsEmptyThen() {
        SegmentIndex x = Trial.after(y -> Trial.holdTokens(y, 120));
        x.add();
        Check.due("TOKENS in hand", () -> x.count(3), 0);
    }

    @Case("The document in hand, which is empty then")
    static void theNextOneHasNothingOfIt() {
        SegmentIndex x = Trial.after(y -> Trial.come(y, 0, 0, 1));
        x.add();
        x.term(15, 1, 0);
        Check.dueHits("found", x, 0, 0, 0);
    }

    @Case("The document in hand comes")
    static void oneWithoutTokensComesToo() {
        SegmentIndex x = new SegmentIndex();
        Check.due("add", x::add, 0);
        Check.due("there", () -> x.count(0), 1);
        Check.due("in the BUFFER", () -> x.count(2), 1);
        Check.due("HITS", () -> x.begins(15, 0, 0, 0), 0);
    }

    @Case("The document in hand comes")
    static void oneWith120TokensComes() {
        SegmentIndex x = Trial.after(y -> Trial.holdTokens(y, 120));
        x.add();
        Check.due("HITS", () -> x.term(15, 1, 0), 120);
    }

    @Case("The document in hand comes")
    static void itIsNotFoundBeforeAndFoundThen() {
        SegmentIndex x = Trial.after(y -> y.token(2, 3, 1, 0));
        Check.due("in hand", () -> x.term(15, 1, 0), 0);
        x.add();
        x.term(15, 1, 0);
        Check.dueHits("in the BUFFER", x, 0, 2, 3);
    }

    @Case("The BUFFER is FLUSHED as soon as 12 documents are in it")
    static void elevenStayInTheBuffer() {
        SegmentIndex x = Trial.after(y -> Trial.comeTimes(y, 11, 1));
        Check.due("in the BUFFER", () -> x.count(2), 11);
        Check.due("SEGMENTS", () -> x.count(4), 0);
    }

    @Case("The BUFFER is FLUSHED as soon as 12 documents are in it")
    static void theTwelfthFlushes() {
        SegmentIndex x = Trial.after(y -> Trial.comeTimes(y, 11, 1));
        Check.due("add", x::add, 11);
        Check.due("in the BUFFER", () -> x.count(2), 0);
        Check.due("SEGMENTS", () -> x.count(4), 1);
        Check.dueSegment("of LEVEL 0", x, 0, 0, 12, 1, 11);
    }

    @Case("The BUFFER is FLUSHED as soon as 12 documents are in it")
    static void theThirteenthIsTheFirstInTheBuffer() {
        SegmentIndex x = Trial.after(y -> Trial.comeTimes(y, 13, 1));
        Check.due("in the BUFFER", () -> x.count(2), 1);
        Check.due("SEGMENTS", () -> x.count(4), 1);
        Check.due("HITS", () -> x.term(15, 1, 0), 13);
    }

    @Case("The BUFFER is FLUSHED as soon as 12 documents are in it")
    static void theTwentyThirdIsTheEleventhInTheBuffer() {
        SegmentIndex x = Trial.after(y -> Trial.comeTimes(y, 23, 1));
        Check.due("in the BUFFER", () -> x.count(2), 11);
        x.add();
        Check.due("in the BUFFER, emptied", () -> x.count(2), 0);
        Check.due("SEGMENTS", () -> x.count(4), 2);
    }

    @Case("if it is in the BUFFER, it goes at once")
    static void aTakenOneLeavesRoomInTheBuffer() {
        SegmentIndex x = Trial.after(y -> Trial.comeTimes(y, 11, 1));
        x.take(10);
        x.add();
        Check.due("in the BUFFER", () -> x.count(2), 11);
        Check.due("add", x::add, 12);
        Check.due("in the BUFFER, emptied", () -> x.count(2), 0);
        Check.dueSegment("without the taken one", x, 0, 0, 12, 1, 10);
    }

    @Case("The BUFFER is FLUSHED as soon as 12 documents are in it")
    static void afterAFlushTheBufferIsCountedAnew() {
        SegmentIndex x = Trial.after(y -> Trial.comeTimes(y, 5, 1));
        x.flush();
        Trial.comeTimes(x, 11, 1);
        Check.due("in the BUFFER", () -> x.count(2), 11);
        x.add();
        Check.due("in the BUFFER, emptied", () -> x.count(2), 0);
        Check.dueSegment("the second", x, 1, 0, 12, 1, 11);
    }

    @Case("as long as the last four SEGMENTS are of one LEVEL")
    static void the48thPutsFourTogether() {
        SegmentIndex x = Trial.after(y -> Trial.comeEmpty(y, 47));
        Check.due("SEGMENTS before", () -> x.count(4), 3);
        Check.due("add", x::add, 47);
        Check.due("SEGMENTS", () -> x.count(4), 1);
        Check.dueSegment("of LEVEL 1", x, 0, 1, 48, 0, 0);
    }

    @Case("as long as the last four SEGMENTS are of one LEVEL")
    static void the192ndPutsFourTimesFourTogether() {
        SegmentIndex x = Trial.after(y -> Trial.comeEmpty(y, 191));
        Check.due("SEGMENTS before", () -> x.count(4), 6);
        Check.due("add", x::add, 191);
        Check.due("SEGMENTS", () -> x.count(4), 1);
        Check.dueSegment("of LEVEL 2", x, 0, 2, 192, 0, 0);
    }

    @Case("used for at most 512 calls")
    static void the512thCallMayStillBeAnAdd() {
        SegmentIndex x = Trial.after(y -> Trial.comeEmpty(y, 511));
        Check.due("add", x::add, 511);
    }

    // The rest needs more than the 512 calls that the document speaks of: 600 documents are 600 calls.

    @Case("at most 600")
    static void the600thComes() {
        SegmentIndex x = Trial.after(y -> Trial.comeEmpty(y, 599));
        Check.due("add", x::add, 599);
        Check.due("that came", () -> x.count(1), 600);
    }

    @Case("IllegalStateException: 600 have come")
    static void the601stIsRefused() {
        Trial.refused(x -> Trial.comeEmpty(x, 600), SegmentIndex::add, Trial.STATE);
    }

    @Case("IllegalStateException: 600 have come")
    static void the601stStaysInHand() {
        Trial.refused(x -> {
            Trial.comeEmpty(x, 600);
            x.token(0, 0, 1, 0);
        }, SegmentIndex::add, Trial.STATE);
    }

    @Case("IllegalStateException: 600 have come")
    static void takenOnesHaveComeToo() {
        Trial.refused(x -> {
            Trial.comeEmpty(x, 600);
            for (int document = 0; document < 600; document++) {
                x.take(document);
            }
            x.pack();
        }, SegmentIndex::add, Trial.STATE);
    }
}
