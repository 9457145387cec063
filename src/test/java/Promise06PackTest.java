/** Promise 6, pack: nothing at all, the buffer alone, all of it taken, and the highest level. */
public final class Promise06PackTest {
    public static void main(String[] args) {
        Cases.runAll(Promise06PackTest.class);
    }

    private static void noSegment(SegmentIndex x) {
        Check.due("SEGMENTS", () -> x.count(4), 0);
        Check.due("the first", () -> x.segment(0, 1), Trial.NONE);
        Check.due("there", () -> x.count(0), 0);
        Check.due("still in SEGMENTS", () -> x.count(7), 0);
    }

    @Case("with none there is no SEGMENT")
    static void nothingAtAll() {
        Trial.asked(x -> { }, SegmentIndex::pack, 0);
    }

    @Case("with none there is no SEGMENT")
    static void tokensInHandAreNoDocument() {
        Trial.asked(x -> Trial.holdTokens(x, 3), SegmentIndex::pack, 0);
    }

    @Case("of the highest LEVEL that there was (0 without)")
    static void theBufferAloneIsOfLevelZero() {
        SegmentIndex x = Trial.after(y -> Trial.comeTimes(y, 11, 1));
        Check.due("pack", x::pack, 11);
        Check.dueSegment("it", x, 0, 0, 11, 1, 11);
        Check.due("in the BUFFER", () -> x.count(2), 0);
    }

    @Case("with none there is no SEGMENT")
    static void aBufferWhoseDocumentsWereAllTaken() {
        Trial.asked(x -> {
            Trial.comeTimes(x, 2, 1);
            x.take(0);
            x.take(1);
        }, SegmentIndex::pack, 0);
    }

    @Case("how many documents it has")
    static void oneDocumentWithoutTokens() {
        SegmentIndex x = Trial.after(y -> Trial.comeEmpty(y, 1));
        Check.due("pack", x::pack, 1);
        Check.dueSegment("it", x, 0, 0, 1, 0, 0);
    }

    @Case("All SEGMENTS and the BUFFER become one SEGMENT")
    static void oneSegmentAloneStaysWhatItIs() {
        Trial.asked(x -> Trial.flushTimes(x, 4, 1), SegmentIndex::pack, 4);
    }

    @Case("All SEGMENTS and the BUFFER become one SEGMENT")
    static void segmentsAlone() {
        SegmentIndex x = Trial.after(y -> Trial.flushTimes(y, 3, 1));
        Check.due("pack", x::pack, 3);
        Check.due("SEGMENTS", () -> x.count(4), 1);
        Check.dueSegment("it", x, 0, 0, 3, 1, 3);
    }

    @Case("All SEGMENTS and the BUFFER become one SEGMENT")
    static void segmentsAndBuffer() {
        SegmentIndex x = Trial.after(y -> Trial.flushTimes(y, 3, 1));
        Trial.comeTimes(x, 11, 2);
        Check.due("pack", x::pack, 14);
        Check.due("SEGMENTS", () -> x.count(4), 1);
        Check.due("in the BUFFER", () -> x.count(2), 0);
        Check.dueSegment("it", x, 0, 0, 14, 2, 14);
    }

    @Case("without the documents that are TAKEN")
    static void oneTakenInASegmentIsLeftOut() {
        SegmentIndex x = Trial.after(y -> Trial.comeTimes(y, 3, 1));
        x.flush();
        x.take(1);
        Check.due("pack", x::pack, 2);
        Check.dueSegment("it", x, 0, 0, 2, 1, 2);
        Check.due("still in SEGMENTS", () -> x.count(7), 0);
        x.term(15, 1, 0);
        Check.dueHits("found", x, 0, 0, 0, 2, 0, 0);
    }

    @Case("without the documents that are TAKEN")
    static void oneTakenInTheBufferIsLeftOut() {
        SegmentIndex x = Trial.after(y -> Trial.comeTimes(y, 3, 1));
        x.take(1);
        Check.due("pack", x::pack, 2);
        Check.dueSegment("it", x, 0, 0, 2, 1, 2);
    }

    @Case("without the documents that are TAKEN")
    static void takenOnesInAllSegmentsAreLeftOut() {
        SegmentIndex x = Trial.after(y -> Trial.flushTimes(y, 6, 1));
        x.take(0);
        x.take(4);
        x.take(5);
        Check.due("pack", x::pack, 3);
        Check.dueSegment("it", x, 0, 1, 3, 1, 3);
        Check.due("still in SEGMENTS", () -> x.count(7), 0);
    }

    @Case("with none there is no SEGMENT")
    static void allAreTaken() {
        SegmentIndex x = Trial.after(y -> Trial.flushTimes(y, 5, 1));
        for (int document = 0; document < 5; document++) {
            x.take(document);
        }
        Check.due("pack", x::pack, 0);
        noSegment(x);
        Check.due("that came", () -> x.count(1), 5);
    }

    @Case("of the highest LEVEL that there was (0 without)")
    static void whenAllWereTakenTheNextOneIsOfLevelZero() {
        SegmentIndex x = Trial.after(y -> Trial.flushTimes(y, 4, 1));
        for (int document = 0; document < 4; document++) {
            x.take(document);
        }
        x.pack();
        Trial.come(x, 0, 0, 1);
        Check.due("pack", x::pack, 1);
        Check.dueSegment("it", x, 0, 0, 1, 1, 1);
    }

    @Case("of the highest LEVEL that there was")
    static void theHighestOfTwoLevels() {
        SegmentIndex x = Trial.after(y -> Trial.flushTimes(y, 5, 1));
        Trial.comeTimes(x, 1, 1);
        Check.due("pack", x::pack, 6);
        Check.dueSegment("it", x, 0, 1, 6, 1, 6);
    }

    @Case("of the highest LEVEL that there was")
    static void theHighestOfThreeLevels() {
        SegmentIndex x = Trial.after(y -> Trial.flushTimes(y, 21, 1));
        Check.due("pack", x::pack, 21);
        Check.dueSegment("it", x, 0, 2, 21, 1, 21);
    }

    @Case("of the highest LEVEL that there was")
    static void aLevelCountsEvenIfAllOfItsDocumentsAreTaken() {
        SegmentIndex x = Trial.after(y -> Trial.flushTimes(y, 4, 1));
        for (int document = 0; document < 4; document++) {
            x.take(document);
        }
        Trial.come(x, 0, 0, 1);
        Check.due("pack", x::pack, 1);
        Check.dueSegment("it", x, 0, 1, 1, 1, 1);
    }

    @Case("All SEGMENTS and the BUFFER become one SEGMENT")
    static void handAndPileStay() {
        SegmentIndex x = Trial.after(Trial::some);
        Check.due("pack", x::pack, 5);
        Check.due("TOKENS in hand", () -> x.count(3), 2);
        Check.due("SETS", () -> x.count(5), 3);
        Check.dueHits("the uppermost", x, 1, 1, 5, 2, 2, 7, 5, 0, 9);
    }

    @Case("All SEGMENTS and the BUFFER become one SEGMENT")
    static void theHitsAreFoundAsBefore() {
        SegmentIndex x = Trial.after(Trial::some);
        x.pack();
        x.begins(15, 0, 0, 0);
        Check.dueHits("found", x, 1, 1, 5, 1, 1, 6, 2, 2, 7, 3, 3, 4095, 5, 0, 9, 6, 0, 8);
    }

    @Case("The BUFFER is FLUSHED as soon as 12 documents are in it")
    static void theBufferIsCountedAnewThen() {
        SegmentIndex x = Trial.after(y -> Trial.comeTimes(y, 5, 1));
        x.pack();
        Trial.comeTimes(x, 11, 1);
        Check.due("in the BUFFER", () -> x.count(2), 11);
        x.add();
        Check.due("in the BUFFER, emptied", () -> x.count(2), 0);
        Check.dueSegment("the second", x, 1, 0, 12, 1, 11);
    }

    @Case("as long as the last four SEGMENTS are of one LEVEL")
    static void aPackedOneOfLevelZeroIsOneOfFour() {
        SegmentIndex x = Trial.after(y -> Trial.comeTimes(y, 5, 1));
        x.pack();
        Trial.flushTimes(x, 2, 1);
        Check.due("three stay", () -> x.count(4), 3);
        Trial.flushTimes(x, 1, 1);
        Check.due("SEGMENTS", () -> x.count(4), 1);
        Check.dueSegment("it", x, 0, 1, 8, 1, 8);
    }

    @Case("as long as the last four SEGMENTS are of one LEVEL")
    static void aPackedOneOfLevelOneIsOneOfFour() {
        SegmentIndex x = Trial.after(y -> Trial.flushTimes(y, 6, 1));
        x.pack();
        Trial.flushTimes(x, 11, 1);
        Check.due("six stay", () -> x.count(4), 6);
        Trial.flushTimes(x, 1, 1);
        Check.due("SEGMENTS", () -> x.count(4), 1);
        Check.dueSegment("it", x, 0, 2, 18, 1, 18);
    }
}
