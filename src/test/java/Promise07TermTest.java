/** Promise 7, term: the bits of FIELDS, the least and greatest TERMS, the eighth and the ninth SET. */
public final class Promise07TermTest {
    /** The term 7, -7 once in every field. */
    private static final Trial.Steps FOUR_FIELDS = x -> {
        for (int field = 0; field < 4; field++) {
            x.token(field, 10 + field, 7, -7);
        }
        x.add();
    };

    public static void main(String[] args) {
        Cases.runAll(Promise07TermTest.class);
    }

    private static void foundIn(int fields, int... hits) {
        SegmentIndex x = Trial.after(FOUR_FIELDS);
        Check.due("term", () -> x.term(fields, 7, -7), hits.length / 3);
        Check.dueHits("found", x, hits);
        Check.due("SETS", () -> x.count(5), 1);
    }

    private static void notFound(int a, int b) {
        SegmentIndex x = Trial.after(y -> {
            y.token(0, 0, 0x01020304, 0x05060708);
            y.add();
        });
        Check.due("another TERM", () -> x.term(15, a, b), 0);
        Check.due("the TERM itself", () -> x.term(15, 0x01020304, 0x05060708), 1);
    }

    @Case("FIELDS (as bits)")
    static void noBitIsNoField() {
        foundIn(0);
    }

    @Case("FIELDS (as bits)")
    static void bitZeroIsFieldZero() {
        foundIn(1, 0, 0, 10);
    }

    @Case("FIELDS (as bits)")
    static void bitOneIsFieldOne() {
        foundIn(2, 0, 1, 11);
    }

    @Case("FIELDS (as bits)")
    static void bitTwoIsFieldTwo() {
        foundIn(4, 0, 2, 12);
    }

    @Case("FIELDS (as bits)")
    static void bitThreeIsFieldThree() {
        foundIn(8, 0, 3, 13);
    }

    @Case("FIELDS (as bits)")
    static void twoBitsAreTwoFields() {
        foundIn(9, 0, 0, 10, 0, 3, 13);
    }

    @Case("FIELDS (as bits)")
    static void fourBitsAreAllFields() {
        foundIn(15, 0, 0, 10, 0, 1, 11, 0, 2, 12, 0, 3, 13);
    }

    @Case("Other bits count for nothing")
    static void bitFourIsNoField() {
        foundIn(16);
    }

    @Case("Other bits count for nothing")
    static void theLeastIntIsNoField() {
        foundIn(Trial.LEAST);
    }

    @Case("Other bits count for nothing")
    static void allOtherBitsAreNoField() {
        foundIn(-16);
    }

    @Case("Other bits count for nothing")
    static void allOtherBitsBesideOneField() {
        foundIn(-16 + 4, 0, 2, 12);
    }

    @Case("Other bits count for nothing")
    static void theGreatestIntIsAllFields() {
        foundIn(Trial.GREATEST, 0, 0, 10, 0, 1, 11, 0, 2, 12, 0, 3, 13);
    }

    @Case("Other bits count for nothing")
    static void allBitsAreAllFields() {
        foundIn(-1, 0, 0, 10, 0, 1, 11, 0, 2, 12, 0, 3, 13);
    }

    @Case("A TERM is eight bytes")
    static void anotherFirstByteIsAnotherTerm() {
        notFound(0x81020304, 0x05060708);
    }

    @Case("A TERM is eight bytes")
    static void anotherFourthByteIsAnotherTerm() {
        notFound(0x01020305, 0x05060708);
    }

    @Case("A TERM is eight bytes")
    static void anotherFifthByteIsAnotherTerm() {
        notFound(0x01020304, 0x85060708);
    }

    @Case("A TERM is eight bytes")
    static void anotherLastByteIsAnotherTerm() {
        notFound(0x01020304, 0x05060709);
    }

    @Case("told as two ints")
    static void leastGreatestAndEqualBytesAreToldApart() {
        int[] ints = {Trial.LEAST, -1, 0, 1, Trial.GREATEST};
        SegmentIndex x = new SegmentIndex();
        for (int i = 0; i < 25; i++) {
            x.token(0, i, ints[i / 5], ints[i % 5]);
        }
        x.add();
        for (int i = 0; i < 25; i++) {
            x.term(15, ints[i / 5], ints[i % 5]);
            Check.dueHits("TERM " + i, x, 0, 0, i);
            x.drop();
        }
    }

    @Case("The HITS of a TERM come to the PILE: how many")
    static void anIndexWithoutDocumentsGivesAnEmptySet() {
        SegmentIndex x = new SegmentIndex();
        Check.due("term", () -> x.term(15, 1, 0), 0);
        Check.due("SETS", () -> x.count(5), 1);
        Check.dueHits("found", x);
    }

    @Case("The HITS of a TERM come to the PILE: how many")
    static void whatIsInHandIsNotFound() {
        SegmentIndex x = Trial.after(y -> y.token(0, 0, 1, 0));
        Check.due("term", () -> x.term(15, 1, 0), 0);
    }

    @Case("The HITS of a TERM come to the PILE: how many")
    static void allPlacesOfAFullDocumentAreFound() {
        SegmentIndex x = Trial.after(y -> Trial.holdTokens(y, 120));
        x.add();
        Check.due("term", () -> x.term(15, 1, 0), 120);
        for (int k = 0; k < 120; k++) {
            int asked = k;
            Check.due("PLACE of " + k, () -> x.hit(asked, 2), k % 30);
        }
    }

    @Case("The HITS of a TERM come to the PILE: how many")
    static void segmentsAndBufferAreSearched() {
        SegmentIndex x = Trial.after(y -> Trial.flushTimes(y, 5, 1));
        Trial.come(x, 0, 0, 1);
        Trial.come(x, 0, 0, 2);
        x.term(15, 1, 0);
        Check.dueHits("found", x, 0, 0, 0, 1, 0, 0, 2, 0, 0, 3, 0, 0, 4, 0, 0, 5, 0, 0);
    }

    @Case("HITS are in order of documents, then FIELDS, then PLACES")
    static void documentsComeBeforeFields() {
        SegmentIndex x = new SegmentIndex();
        Trial.come(x, 3, 4095, 1);
        Trial.come(x, 0, 0, 1);
        x.term(15, 1, 0);
        Check.dueHits("found", x, 0, 3, 4095, 1, 0, 0);
    }

    @Case("HITS are in order of documents, then FIELDS, then PLACES")
    static void fieldsComeBeforePlaces() {
        SegmentIndex x = new SegmentIndex();
        x.token(1, 0, 1, 0);
        x.token(0, 4095, 1, 0);
        x.add();
        x.term(15, 1, 0);
        Check.dueHits("found", x, 0, 0, 4095, 0, 1, 0);
    }

    @Case("HITS are in order of documents, then FIELDS, then PLACES")
    static void placesComeLast() {
        SegmentIndex x = new SegmentIndex();
        for (int place : new int[] {4095, 10, 0, 9, 4094}) {
            x.token(2, place, 1, 0);
        }
        x.add();
        x.term(15, 1, 0);
        Check.dueHits("found", x, 0, 2, 0, 0, 2, 9, 0, 2, 10, 0, 2, 4094, 0, 2, 4095);
    }

    @Case("SETS of HITS stand on a PILE, at most 8")
    static void theEighthComes() {
        SegmentIndex x = Trial.after(FOUR_FIELDS);
        Trial.pileUp(x, 7);
        Check.due("term", () -> x.term(15, 7, -7), 4);
        Check.due("SETS", () -> x.count(5), 8);
    }

    @Case("IllegalStateException: 8 are there")
    static void theNinthIsRefused() {
        Trial.refused(x -> {
            Trial.some(x);
            Trial.pileUp(x, 5);
        }, x -> x.term(15, 1, 0), Trial.STATE);
    }

    @Case("IllegalStateException: 8 are there")
    static void theNinthIsRefusedEvenIfItWereEmpty() {
        Trial.refused(x -> {
            Trial.pileUp(x, 7);
            Trial.come(x, 0, 0, 1);
            x.term(15, 1, 0);
        }, x -> x.term(0, 99, 99), Trial.STATE);
    }

    @Case("IllegalStateException: 8 are there")
    static void behindADropThereIsRoom() {
        SegmentIndex x = Trial.after(FOUR_FIELDS);
        Trial.pileUp(x, 8);
        x.drop();
        Check.due("term", () -> x.term(15, 7, -7), 4);
        Check.thrown("one more", () -> x.term(15, 7, -7), Trial.STATE);
    }

    @Case("IllegalStateException: 8 are there")
    static void behindAJoinThereIsRoom() {
        SegmentIndex x = Trial.after(FOUR_FIELDS);
        Trial.pileUp(x, 8);
        x.join(1);
        Check.due("term", () -> x.term(15, 7, -7), 4);
        Check.thrown("one more", () -> x.term(15, 7, -7), Trial.STATE);
    }

    @Case("SETS of HITS stand on a PILE")
    static void eightSetsAreEachTheirOwn() {
        SegmentIndex x = new SegmentIndex();
        for (int word = 0; word < 8; word++) {
            x.token(word % 4, word, word, 0);
        }
        x.add();
        for (int word = 0; word < 8; word++) {
            x.term(15, word, 0);
        }
        for (int word = 7; word >= 0; word--) {
            Check.dueHits("SET " + word, x, 0, word % 4, word);
            x.drop();
        }
    }
}
