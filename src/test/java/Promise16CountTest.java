/** Promise 16, count: each what in the empty, a mixed and the full state, and the whats outside. */
public final class Promise16CountTest {
    public static void main(String[] args) {
        Cases.runAll(Promise16CountTest.class);
    }

    private static void due(Trial.Steps steps, int what, int want) {
        Trial.asked(steps, x -> x.count(what), want);
    }

    @Case("Documents there (what = 0)")
    static void thereAreThoseThatAreNotTaken() {
        due(Trial::some, 0, 5);
    }

    @Case("Documents there (what = 0)")
    static void whenAllAreTakenNoneIsThere() {
        due(x -> {
            Trial.flushTimes(x, 1, 1);
            Trial.comeTimes(x, 1, 1);
            x.take(0);
            x.take(1);
        }, 0, 0);
    }

    @Case("that came (1)")
    static void takenOnesCameToo() {
        due(Trial::some, 1, 7);
    }

    @Case("that came (1)")
    static void packedAwayOnesCameToo() {
        due(x -> {
            Trial.flushTimes(x, 1, 1);
            x.take(0);
            x.pack();
        }, 1, 1);
    }

    @Case("in the BUFFER (2)")
    static void inTheBufferAreThoseThatAreNotTaken() {
        due(Trial::some, 2, 2);
    }

    @Case("in the BUFFER (2)")
    static void elevenAtMostAreInTheBuffer() {
        due(x -> Trial.comeEmpty(x, 11), 2, 11);
        due(x -> Trial.comeEmpty(x, 12), 2, 0);
        due(x -> Trial.comeEmpty(x, 13), 2, 1);
    }

    @Case("TOKENS in hand (3)")
    static void tokensInHand() {
        due(Trial::some, 3, 2);
        due(x -> Trial.holdTokens(x, 1), 3, 1);
    }

    @Case("TOKENS in hand (3)")
    static void at120TheHandIsFull() {
        due(x -> Trial.holdTokens(x, 120), 3, 120);
    }

    @Case("TOKENS in hand (3)")
    static void behindAnAddTheHandIsEmpty() {
        due(x -> Trial.come(x, 0, 0, 1), 3, 0);
    }

    @Case("SEGMENTS (4)")
    static void segments() {
        due(Trial::some, 4, 2);
        due(x -> Trial.flushTimes(x, 3, 1), 4, 3);
        due(x -> Trial.flushTimes(x, 4, 1), 4, 1);
    }

    @Case("SETS (5)")
    static void setsFromNoneToEight() {
        for (int sets = 0; sets <= 8; sets++) {
            int piled = sets;
            due(x -> Trial.pileUp(x, piled), 5, sets);
        }
    }

    @Case("HITS of the uppermost SET (6)")
    static void hitsOfTheUppermostAlone() {
        due(Trial::some, 6, 3);
    }

    @Case("HITS of the uppermost SET (6)")
    static void anEmptySetHasNoHits() {
        due(x -> {
            Trial.some(x);
            x.drop();
        }, 6, 0);
    }

    @Case("HITS of the uppermost SET (6; 0 without)")
    static void withoutASetThereAreNoHits() {
        due(x -> {
            Trial.some(x);
            x.drop();
            x.drop();
            x.drop();
        }, 6, 0);
    }

    @Case("TAKEN documents that are still in SEGMENTS (7)")
    static void takenOnesInSegmentsAlone() {
        due(Trial::some, 7, 1);
    }

    @Case("TAKEN documents that are still in SEGMENTS (7)")
    static void oneTakenInTheBufferIsInNoSegment() {
        due(x -> {
            Trial.comeTimes(x, 2, 1);
            x.take(0);
            x.flush();
        }, 7, 0);
    }

    @Case("TAKEN documents that are still in SEGMENTS (7)")
    static void whenTheSegmentBecameAnotherOneNoneIsLeft() {
        due(x -> {
            Trial.flushTimes(x, 3, 1);
            x.take(0);
            Trial.flushTimes(x, 1, 1);
        }, 7, 0);
        due(x -> {
            Trial.flushTimes(x, 3, 1);
            x.take(0);
            x.pack();
        }, 7, 0);
    }

    @Case("TAKEN documents that are still in SEGMENTS (7)")
    static void allOfASegmentAreTaken() {
        due(x -> {
            Trial.comeTimes(x, 12, 1);
            for (int document = 0; document < 12; document++) {
                x.take(document);
            }
        }, 7, 12);
    }

    @Case("NONE for another what")
    static void whatMinusOne() {
        due(Trial::some, -1, Trial.NONE);
    }

    @Case("NONE for another what")
    static void whatEight() {
        due(Trial::some, 8, Trial.NONE);
    }

    @Case("NONE for another what")
    static void whatTheLeastInt() {
        due(Trial::some, Trial.LEAST, Trial.NONE);
    }

    @Case("NONE for another what")
    static void whatTheGreatestInt() {
        due(Trial::some, Trial.GREATEST, Trial.NONE);
    }

    @Case("NONE for another what")
    static void onANewObjectToo() {
        due(x -> { }, -1, Trial.NONE);
        due(x -> { }, 8, Trial.NONE);
    }
}
