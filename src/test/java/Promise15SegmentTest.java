/** Promise 15, segment: the oldest and the newest, those outside, each what and those outside. */
public final class Promise15SegmentTest {
    /** Levels 1 and 0, with four documents and two; document 4 has two tokens, one of them new. */
    private static final Trial.Steps TWO = x -> {
        Trial.flushTimes(x, 4, 1);
        Trial.holdTokens(x, 1);
        x.token(3, 4095, 2, 0);
        x.add();
        x.add();
        x.flush();
        Trial.come(x, 0, 0, 3);
    };

    public static void main(String[] args) {
        Cases.runAll(Promise15SegmentTest.class);
    }

    private static void due(int segment, int what, int want) {
        Trial.asked(TWO, x -> x.segment(segment, what), want);
    }

    private static void noneWhateverIsAsked(Trial.Steps steps, int segment) {
        for (int what = 0; what <= 3; what++) {
            int asked = what;
            Trial.asked(steps, x -> x.segment(segment, asked), Trial.NONE);
        }
    }

    @Case("the oldest first: its LEVEL (what = 0)")
    static void levelOfTheOldestAndTheNewest() {
        due(0, 0, 1);
        due(1, 0, 0);
    }

    @Case("how many documents (1)")
    static void documentsOfTheOldestAndTheNewest() {
        due(0, 1, 4);
        due(1, 1, 2);
    }

    @Case("different TERMS (2)")
    static void termsOfTheOldestAndTheNewest() {
        due(0, 2, 1);
        due(1, 2, 2);
    }

    @Case("TOKENS (3)")
    static void tokensOfTheOldestAndTheNewest() {
        due(0, 3, 4);
        due(1, 3, 2);
    }

    @Case("NONE if there is none such")
    static void beforeTheOldest() {
        noneWhateverIsAsked(TWO, -1);
    }

    @Case("NONE if there is none such")
    static void behindTheNewest() {
        noneWhateverIsAsked(TWO, 2);
    }

    @Case("NONE if there is none such")
    static void theLeastInt() {
        noneWhateverIsAsked(TWO, Trial.LEAST);
    }

    @Case("NONE if there is none such")
    static void theGreatestInt() {
        noneWhateverIsAsked(TWO, Trial.GREATEST);
    }

    @Case("NONE if there is none such")
    static void withoutASegment() {
        noneWhateverIsAsked(x -> { }, 0);
    }

    @Case("NONE if there is none such")
    static void theBufferIsNoSegment() {
        noneWhateverIsAsked(x -> Trial.comeTimes(x, 11, 1), 0);
    }

    @Case("NONE if there is none such")
    static void whereSegmentsWereThatBecameOne() {
        noneWhateverIsAsked(x -> Trial.flushTimes(x, 4, 1), 1);
    }

    @Case("NONE if there is none such")
    static void whereASegmentWasThatWasPackedAway() {
        noneWhateverIsAsked(x -> {
            Trial.flushTimes(x, 1, 1);
            x.take(0);
            x.pack();
        }, 0);
    }

    @Case("NONE for another what")
    static void whatMinusOne() {
        due(0, -1, Trial.NONE);
    }

    @Case("NONE for another what")
    static void whatFour() {
        due(0, 4, Trial.NONE);
    }

    @Case("NONE for another what")
    static void whatTheLeastInt() {
        due(0, Trial.LEAST, Trial.NONE);
    }

    @Case("NONE for another what")
    static void whatTheGreatestInt() {
        due(0, Trial.GREATEST, Trial.NONE);
    }

    @Case("NONE if there is none such, or for another what")
    static void neitherSegmentNorWhat() {
        due(2, 4, Trial.NONE);
        due(-1, -1, Trial.NONE);
    }

    @Case("how many documents (1; TAKEN ones too)")
    static void takenOnesCountToo() {
        Trial.Steps steps = x -> {
            TWO.on(x);
            x.take(0);
            x.take(3);
            x.take(4);
            x.take(5);
        };
        Trial.asked(steps, x -> x.segment(0, 1), 4);
        Trial.asked(steps, x -> x.segment(1, 1), 2);
    }

    @Case("segments that are never changed, only put together")
    static void termsAndTokensOfTakenOnesStayInTheSegment() {
        Trial.Steps steps = x -> {
            TWO.on(x);
            x.take(4);
        };
        Trial.asked(steps, x -> x.segment(1, 2), 2);
        Trial.asked(steps, x -> x.segment(1, 3), 2);
    }

    @Case("different TERMS (2), TOKENS (3)")
    static void aDocumentWithoutTokensHasNoTerms() {
        SegmentIndex x = Trial.after(y -> Trial.comeEmpty(y, 2));
        x.flush();
        Check.dueSegment("it", x, 0, 0, 2, 0, 0);
    }

    @Case("different TERMS (2)")
    static void termsOfLeastGreatestAndEqualBytesAreToldApart() {
        int[] ints = {Trial.LEAST, -1, 0, 1, Trial.GREATEST};
        SegmentIndex x = new SegmentIndex();
        for (int document = 0; document < 2; document++) {
            for (int i = 0; i < 25; i++) {
                x.token(document, i, ints[i / 5], ints[i % 5]);
            }
            x.add();
        }
        x.flush();
        Check.dueSegment("it", x, 0, 0, 2, 25, 50);
    }

    @Case("different TERMS (2), TOKENS (3)")
    static void oneTermAtManyPlacesIsOne() {
        SegmentIndex x = Trial.after(y -> Trial.holdTokens(y, 120));
        x.add();
        x.flush();
        Check.dueSegment("it", x, 0, 0, 1, 1, 120);
    }

    @Case("different TERMS (2), TOKENS (3)")
    static void manyTermsAtOnePlaceAreMany() {
        SegmentIndex x = new SegmentIndex();
        for (int word = 0; word < 120; word++) {
            x.token(0, 0, word * 7, -word);
        }
        x.add();
        x.flush();
        Check.dueSegment("it", x, 0, 0, 1, 120, 120);
    }

    @Case("TOKENS (3): one that it has already is not one more")
    static void aTokenThatCameTwiceIsOne() {
        SegmentIndex x = Trial.after(y -> Trial.holdTokens(y, 2));
        Trial.holdTokens(x, 2);
        x.add();
        x.flush();
        Check.dueSegment("it", x, 0, 0, 1, 1, 2);
    }
}
