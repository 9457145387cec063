/** Promise 5, flush: the empty buffer, three and four segments of one level, and what is taken by then. */
public final class Promise05FlushTest {
    public static void main(String[] args) {
        Cases.runAll(Promise05FlushTest.class);
    }

    /** The levels of the segments, the oldest first, and none behind them. */
    private static void dueLevels(SegmentIndex x, int... want) {
        Check.due("SEGMENTS", () -> x.count(4), want.length);
        for (int i = 0; i < want.length; i++) {
            int asked = i;
            Check.due("LEVEL of " + i, () -> x.segment(asked, 0), want[i]);
        }
        Check.due("behind the last", () -> x.segment(want.length, 0), Trial.NONE);
    }

    private static SegmentIndex flushed(int times) {
        return Trial.after(x -> Trial.flushTimes(x, times, 1));
    }

    @Case("if there are documents in the BUFFER")
    static void withoutDocumentsThereIsNoSegment() {
        Trial.asked(x -> { }, SegmentIndex::flush, 0);
    }

    @Case("if there are documents in the BUFFER")
    static void tokensInHandAreNoDocument() {
        Trial.asked(x -> Trial.holdTokens(x, 3), SegmentIndex::flush, 0);
    }

    @Case("if there are documents in the BUFFER")
    static void onceMoreItMakesNothing() {
        Trial.asked(x -> Trial.flushTimes(x, 2, 1), SegmentIndex::flush, 2);
    }

    @Case("if there are documents in the BUFFER")
    static void aBufferWhoseDocumentsWereAllTakenIsEmpty() {
        Trial.asked(x -> {
            Trial.comeTimes(x, 2, 1);
            x.take(0);
            x.take(1);
        }, SegmentIndex::flush, 0);
    }

    @Case("in a SEGMENT it stays until that becomes another one")
    static void anEmptyBufferChangesNoSegment() {
        Trial.asked(x -> {
            Trial.flushTimes(x, 3, 1);
            x.take(0);
            x.take(2);
        }, SegmentIndex::flush, 3);
    }

    @Case("they are a SEGMENT of LEVEL 0, the last one")
    static void oneDocumentIsASegmentOfLevelZero() {
        SegmentIndex x = Trial.after(y -> Trial.come(y, 0, 0, 1));
        Check.due("flush", x::flush, 1);
        Check.dueSegment("it", x, 0, 0, 1, 1, 1);
    }

    @Case("they are a SEGMENT of LEVEL 0, the last one")
    static void aDocumentWithoutTokensIsASegmentToo() {
        SegmentIndex x = Trial.after(y -> Trial.comeEmpty(y, 1));
        Check.due("flush", x::flush, 1);
        Check.dueSegment("it", x, 0, 0, 1, 0, 0);
    }

    @Case("they are a SEGMENT of LEVEL 0, the last one")
    static void elevenDocumentsAreOneSegment() {
        SegmentIndex x = Trial.after(y -> Trial.comeTimes(y, 11, 1));
        Check.due("flush", x::flush, 1);
        Check.dueSegment("it", x, 0, 0, 11, 1, 11);
    }

    @Case("they are a SEGMENT of LEVEL 0, the last one")
    static void theNewestIsTheLast() {
        SegmentIndex x = flushed(1);
        Trial.comeTimes(x, 2, 1);
        Check.due("flush", x::flush, 2);
        Check.dueSegment("the older", x, 0, 0, 1);
        Check.dueSegment("the newer", x, 1, 0, 2);
    }

    @Case("and the BUFFER is empty")
    static void theBufferIsEmptyThen() {
        SegmentIndex x = Trial.after(y -> Trial.comeTimes(y, 11, 1));
        x.flush();
        Check.due("in the BUFFER", () -> x.count(2), 0);
        Check.due("there", () -> x.count(0), 11);
        Check.due("HITS", () -> x.term(15, 1, 0), 11);
    }

    @Case("FLUSH")
    static void handAndPileStay() {
        SegmentIndex x = Trial.after(Trial::some);
        x.flush();
        Check.due("TOKENS in hand", () -> x.count(3), 2);
        Check.due("SETS", () -> x.count(5), 3);
        Check.dueHits("the uppermost", x, 1, 1, 5, 2, 2, 7, 5, 0, 9);
    }

    @Case("as long as the last four SEGMENTS are of one LEVEL")
    static void threeOfOneLevelStay() {
        dueLevels(flushed(3), 0, 0, 0);
    }

    @Case("these become one of a LEVEL more in their place")
    static void fourBecomeOneOfLevelOne() {
        SegmentIndex x = flushed(3);
        Trial.come(x, 0, 0, 2);
        Check.due("flush", x::flush, 1);
        Check.dueSegment("it", x, 0, 1, 4, 2, 4);
        dueLevels(x, 1);
    }

    @Case("these become one of a LEVEL more in their place")
    static void theFifthIsOfLevelZeroAgain() {
        dueLevels(flushed(5), 1, 0);
    }

    @Case("as long as the last four SEGMENTS are of one LEVEL")
    static void fourOfTwoLevelsStay() {
        dueLevels(flushed(7), 1, 0, 0, 0);
    }

    @Case("these become one of a LEVEL more in their place")
    static void theyStandBehindTheOlderOne() {
        SegmentIndex x = flushed(4);
        Trial.flushTimes(x, 4, 2);
        dueLevels(x, 1, 1);
        x.take(7);
        Trial.comeTimes(x, 1, 3);
        x.flush();
        Check.dueSegment("the older", x, 0, 1, 4, 1, 4);
        Check.dueSegment("the newer", x, 1, 1, 4, 1, 4);
    }

    @Case("as long as the last four SEGMENTS are of one LEVEL")
    static void fifteenAreSixSegments() {
        dueLevels(flushed(15), 1, 1, 1, 0, 0, 0);
    }

    @Case("as long as the last four SEGMENTS are of one LEVEL")
    static void theSixteenthGoesUpTwoLevels() {
        SegmentIndex x = flushed(15);
        Trial.come(x, 0, 0, 1);
        Check.due("flush", x::flush, 1);
        Check.dueSegment("it", x, 0, 2, 16, 1, 16);
    }

    @Case("as long as the last four SEGMENTS are of one LEVEL")
    static void theSixtyFourthGoesUpThreeLevels() {
        SegmentIndex x = flushed(63);
        dueLevels(x, 2, 2, 2, 1, 1, 1, 0, 0, 0);
        Trial.come(x, 0, 0, 1);
        Check.due("flush", x::flush, 1);
        Check.dueSegment("it", x, 0, 3, 64, 1, 64);
    }

    @Case("used for at most 512 calls")
    static void the512thCallGoesUpFourLevels() {
        SegmentIndex x = new SegmentIndex();
        for (int i = 0; i < 255; i++) {
            x.add();
            x.flush();
        }
        x.add();
        Check.due("flush", x::flush, 1);
    }

    @Case("without the documents that have been TAKEN")
    static void fourBecomeOneWithoutTheTaken() {
        SegmentIndex x = flushed(3);
        x.take(1);
        Trial.come(x, 0, 0, 2);
        Check.due("flush", x::flush, 1);
        Check.dueSegment("it", x, 0, 1, 3, 2, 3);
        Check.due("still in SEGMENTS", () -> x.count(7), 0);
        Check.due("there", () -> x.count(0), 3);
    }

    // The newest of the four comes from the buffer, where taken ones do not stay: one at least is left.
    @Case("without the documents that have been TAKEN")
    static void ofFourOnlyTheNewestIsLeft() {
        SegmentIndex x = flushed(3);
        x.take(0);
        x.take(1);
        x.take(2);
        Trial.come(x, 3, 9, 2);
        Check.due("flush", x::flush, 1);
        Check.dueSegment("it", x, 0, 1, 1, 1, 1);
        Check.due("still in SEGMENTS", () -> x.count(7), 0);
        x.begins(15, 0, 0, 0);
        Check.dueHits("found", x, 3, 3, 9);
    }

    @Case("in a SEGMENT it stays until that becomes another one")
    static void oneTakenInAnOlderSegmentStaysWhenTheLastFourBecomeOne() {
        SegmentIndex x = flushed(7);
        x.take(0);
        x.take(5);
        Trial.come(x, 0, 0, 1);
        Check.due("flush", x::flush, 2);
        Check.dueSegment("the older", x, 0, 1, 4, 1, 4);
        Check.dueSegment("the newer", x, 1, 1, 3, 1, 3);
        Check.due("still in SEGMENTS", () -> x.count(7), 1);
    }

    @Case("as long as the last four SEGMENTS are of one LEVEL")
    static void withTakenOnesItGoesUpTwoLevelsToo() {
        SegmentIndex x = flushed(15);
        x.take(0);
        x.take(14);
        Trial.come(x, 0, 0, 1);
        Check.due("flush", x::flush, 1);
        Check.dueSegment("it", x, 0, 2, 14, 1, 14);
        Check.due("still in SEGMENTS", () -> x.count(7), 0);
    }

    @Case("these become one of a LEVEL more")
    static void theHitsStayAndStandInTheirOrder() {
        SegmentIndex x = new SegmentIndex();
        for (int i = 0; i < 4; i++) {
            Trial.come(x, 3 - i, i, 1);
            x.flush();
        }
        x.term(15, 1, 0);
        Check.dueHits("found", x, 0, 3, 0, 1, 2, 1, 2, 1, 2, 3, 0, 3);
    }
}
