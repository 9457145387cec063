/** Promise 4, take: the ends of the numbers, and one that is in hand, taken, or gone. */
public final class Promise04TakeTest {
    /** Documents 0 and 1 in a segment, 2 and 3 in the buffer, one in hand. */
    private static final Trial.Steps FOUR = x -> {
        Trial.comeTimes(x, 2, 1);
        x.flush();
        Trial.comeTimes(x, 2, 1);
        x.token(0, 0, 1, 0);
    };

    public static void main(String[] args) {
        Cases.runAll(Promise04TakeTest.class);
    }

    private static void notThere(Trial.Steps steps, int document) {
        Trial.refused(steps, x -> Trial.taken(x, document), Trial.INDEX);
    }

    private static SegmentIndex without(int... documents) {
        SegmentIndex x = Trial.after(FOUR);
        for (int document : documents) {
            Check.silent("take(" + document + ")", () -> x.take(document));
        }
        return x;
    }

    @Case("IndexOutOfBoundsException: it is not there")
    static void noneIsThere() {
        notThere(x -> { }, 0);
    }

    @Case("IndexOutOfBoundsException: it is not there")
    static void minusOneIsRefused() {
        notThere(FOUR, -1);
    }

    @Case("IndexOutOfBoundsException: it is not there")
    static void theLeastIntIsRefused() {
        notThere(FOUR, Trial.LEAST);
    }

    @Case("IndexOutOfBoundsException: it is not there")
    static void theGreatestIntIsRefused() {
        notThere(FOUR, Trial.GREATEST);
    }

    @Case("IndexOutOfBoundsException: it is not there")
    static void theOneInHandIsRefused() {
        notThere(FOUR, 4);
    }

    @Case("IndexOutOfBoundsException: it is not there")
    static void onesThatMayComeYetAreRefused() {
        notThere(FOUR, 5);
        notThere(FOUR, 599);
        notThere(FOUR, 600);
        notThere(FOUR, 601);
    }

    @Case("A document is TAKEN")
    static void theFirstIsTaken() {
        SegmentIndex x = without(0);
        x.term(15, 1, 0);
        Check.dueHits("the others", x, 1, 0, 0, 2, 0, 0, 3, 0, 0);
    }

    @Case("A document is TAKEN")
    static void theLastIsTaken() {
        SegmentIndex x = without(3);
        x.term(15, 1, 0);
        Check.dueHits("the others", x, 0, 0, 0, 1, 0, 0, 2, 0, 0);
    }

    @Case("A document is TAKEN")
    static void allAreTaken() {
        SegmentIndex x = without(3, 0, 2, 1);
        Check.due("there", () -> x.count(0), 0);
        Check.due("that came", () -> x.count(1), 4);
        Check.due("HITS", () -> x.begins(15, 0, 0, 0), 0);
    }

    @Case("if it is in the BUFFER, it goes at once")
    static void inTheBufferItGoesAtOnce() {
        SegmentIndex x = without(2);
        Check.due("there", () -> x.count(0), 3);
        Check.due("in the BUFFER", () -> x.count(2), 1);
        Check.due("still in SEGMENTS", () -> x.count(7), 0);
        x.flush();
        Check.dueSegment("the next SEGMENT is without it", x, 1, 0, 1, 1, 1);
    }

    @Case("in a SEGMENT it stays until that becomes another one")
    static void inASegmentItStays() {
        SegmentIndex x = without(1);
        Check.due("there", () -> x.count(0), 3);
        Check.due("in the BUFFER", () -> x.count(2), 2);
        Check.due("still in SEGMENTS", () -> x.count(7), 1);
        Check.dueSegment("unchanged", x, 0, 0, 2, 1, 2);
    }

    @Case("in a SEGMENT it stays until that becomes another one")
    static void aFlushThatMakesAnotherSegmentLeavesItThere() {
        SegmentIndex x = without(0, 1);
        x.flush();
        Check.due("still in SEGMENTS", () -> x.count(7), 2);
        Check.dueSegment("unchanged", x, 0, 0, 2, 1, 2);
    }

    @Case("A document that is TAKEN is found no more")
    static void itIsFoundNoMoreByTerm() {
        SegmentIndex x = without(1, 2);
        x.term(15, 1, 0);
        Check.dueHits("the others", x, 0, 0, 0, 3, 0, 0);
    }

    @Case("A document that is TAKEN is found no more")
    static void itIsFoundNoMoreByBegins() {
        SegmentIndex x = without(1, 2);
        x.begins(15, 0, 0, 0);
        Check.dueHits("the others", x, 0, 0, 0, 3, 0, 0);
    }

    @Case("A document that is TAKEN is found no more")
    static void itIsFoundNoMoreByFollow() {
        SegmentIndex x = new SegmentIndex();
        for (int i = 0; i < 3; i++) {
            x.token(0, 0, 1, 0);
            x.token(0, 1, 2, 0);
            x.add();
            if (i == 1) {
                x.flush();
            }
        }
        x.term(15, 1, 0);
        x.take(0);
        x.take(2);
        x.follow(2, 0, 1);
        Check.dueHits("the other", x, 1, 0, 1);
    }

    @Case("SETS of HITS stand on a PILE")
    static void aSetThatStandsOnThePileStaysAsItIs() {
        SegmentIndex x = Trial.after(FOUR);
        x.term(15, 1, 0);
        x.take(0);
        x.take(3);
        Check.dueHits("the SET", x, 0, 0, 0, 1, 0, 0, 2, 0, 0, 3, 0, 0);
    }

    @Case("IndexOutOfBoundsException: it is not there")
    static void takenFromTheBufferItIsNotThereAgain() {
        notThere(x -> {
            FOUR.on(x);
            x.take(3);
        }, 3);
    }

    @Case("IndexOutOfBoundsException: it is not there")
    static void takenFromTheBufferItIsNotThereBehindAFlush() {
        notThere(x -> {
            FOUR.on(x);
            x.take(2);
            x.flush();
        }, 2);
    }

    @Case("IndexOutOfBoundsException: it is not there")
    static void takenInASegmentItIsNotThereAgain() {
        notThere(x -> {
            FOUR.on(x);
            x.take(0);
        }, 0);
    }

    @Case("IndexOutOfBoundsException: it is not there")
    static void leftOutWhenFourBecameOneItIsNotThere() {
        notThere(x -> {
            Trial.flushTimes(x, 3, 1);
            x.take(1);
            Trial.flushTimes(x, 1, 1);
        }, 1);
    }

    @Case("IndexOutOfBoundsException: it is not there")
    static void packedAwayItIsNotThere() {
        notThere(x -> {
            FOUR.on(x);
            x.take(1);
            x.pack();
        }, 1);
    }

    // The rest needs more than the 512 calls that the document speaks of: 600 documents are 600 calls.

    @Case("DOCUMENTS are numbered from 0 on as they come, at most 600")
    static void ofSixHundredTheLastIsThere() {
        SegmentIndex x = Trial.after(y -> Trial.comeEmpty(y, 600));
        Check.silent("take(599)", () -> x.take(599));
        Check.due("there", () -> x.count(0), 599);
    }

    @Case("DOCUMENTS are numbered from 0 on as they come, at most 600")
    static void ofSixHundredNumber600IsNotThere() {
        notThere(x -> Trial.comeEmpty(x, 600), 600);
    }
}
