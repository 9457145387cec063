/** Promise 8, begins: n from 0 to 8 and outside, bytes above 127, the eighth and the ninth SET. */
public final class Promise08BeginsTest {
    private static final int A = 0x01020304;
    private static final int B = 0x05060708;

    public static void main(String[] args) {
        Cases.runAll(Promise08BeginsTest.class);
    }

    /** One document with these terms (two ints each) at places 0, 1, 2 .. of field 1. */
    private static SegmentIndex with(int... terms) {
        SegmentIndex x = new SegmentIndex();
        for (int i = 0; i + 1 < terms.length; i += 2) {
            x.token(1, i / 2, terms[i], terms[i + 1]);
        }
        x.add();
        return x;
    }

    /** A term that differs from A, B in the highest bit of one byte is found by the bytes before it. */
    private static void differsIn(int a, int b, int bytesBefore) {
        SegmentIndex x = with(A, B, a, b);
        Check.due("n = " + bytesBefore, () -> x.begins(2, A, B, bytesBefore), 2);
        Check.dueHits("both", x, 0, 1, 0, 0, 1, 1);
        Check.due("n = " + (bytesBefore + 1), () -> x.begins(2, A, B, bytesBefore + 1), 1);
        Check.dueHits("the one", x, 0, 1, 0);
        Check.due("the other, n = " + (bytesBefore + 1), () -> x.begins(2, a, b, bytesBefore + 1), 1);
        Check.dueHits("the other", x, 0, 1, 1);
    }

    private static void noSuch(int n) {
        Trial.refused(Trial::some, x -> x.begins(15, 0, 0, n), Trial.ARGUMENT);
    }

    @Case("whose first n bytes are those of this one")
    static void zeroBytesAreThoseOfAllTerms() {
        SegmentIndex x = with(0, 0, -1, -1, Trial.LEAST, Trial.GREATEST, A, B);
        Check.due("begins", () -> x.begins(2, A, B, 0), 4);
    }

    @Case("whose first n bytes are those of this one")
    static void eightBytesAreThoseOfTheTermAlone() {
        SegmentIndex x = with(A, B, A, B + 1, A, B - 1, A + 1, B, A - 1, B);
        Check.due("begins", () -> x.begins(2, A, B, 8), 1);
        Check.dueHits("found", x, 0, 1, 0);
    }

    @Case("the highest byte of the first one first")
    static void theFirstByteCountsFromOneOn() {
        differsIn(0x81020304, B, 0);
    }

    @Case("whose first n bytes are those of this one")
    static void theSecondByteCountsFromTwoOn() {
        differsIn(0x01820304, B, 1);
    }

    @Case("whose first n bytes are those of this one")
    static void theThirdByteCountsFromThreeOn() {
        differsIn(0x01028304, B, 2);
    }

    @Case("whose first n bytes are those of this one")
    static void theFourthByteCountsFromFourOn() {
        differsIn(0x01020384, B, 3);
    }

    @Case("told as two ints, the highest byte of the first one first")
    static void theFifthByteCountsFromFiveOn() {
        differsIn(A, 0x85060708, 4);
    }

    @Case("whose first n bytes are those of this one")
    static void theSixthByteCountsFromSixOn() {
        differsIn(A, 0x05860708, 5);
    }

    @Case("whose first n bytes are those of this one")
    static void theSeventhByteCountsFromSevenOn() {
        differsIn(A, 0x05068708, 6);
    }

    @Case("whose first n bytes are those of this one")
    static void theEighthByteCountsAtEightAlone() {
        differsIn(A, 0x05060788, 7);
    }

    @Case("whose first n bytes are those of this one")
    static void theLowestBitOfTheLastByteCountsAtEight() {
        differsIn(A, B ^ 1, 7);
    }

    @Case("whose first n bytes are those of this one")
    static void bytesBehindTheFirstNCountForNothing() {
        SegmentIndex x = with(A, B);
        Check.due("two", () -> x.begins(2, 0x0102FFFF, -1, 2), 1);
        Check.due("four", () -> x.begins(2, A, -1, 4), 1);
        Check.due("five", () -> x.begins(2, A, 0x05FFFFFF, 5), 1);
    }

    @Case("byte by byte (0 .. 255)")
    static void byte255IsNotByteZero() {
        SegmentIndex x = with(-1, -1, 0, 0);
        Check.due("255", () -> x.begins(2, 0xFF000000, 0, 1), 1);
        Check.dueHits("255", x, 0, 1, 0);
        Check.due("0", () -> x.begins(2, 0x00FFFFFF, -1, 1), 1);
        Check.dueHits("0", x, 0, 1, 1);
    }

    @Case("byte by byte (0 .. 255)")
    static void bytes127And128AreToldApart() {
        SegmentIndex x = with(Trial.GREATEST, 0, Trial.LEAST, 0);
        Check.due("127", () -> x.begins(2, Trial.GREATEST, 0, 1), 1);
        Check.dueHits("127", x, 0, 1, 0);
        Check.due("128", () -> x.begins(2, Trial.LEAST, 0, 1), 1);
        Check.dueHits("128", x, 0, 1, 1);
    }

    @Case("A TERM is eight bytes, told as two ints")
    static void aSecondIntBelowZeroDoesNotReachTheFirst() {
        SegmentIndex x = with(0, -1, -1, -1);
        Check.due("begins", () -> x.begins(2, 0, -1, 4), 1);
        Check.dueHits("found", x, 0, 1, 0);
        Check.due("begins", () -> x.begins(2, 0, Trial.LEAST, 5), 0);
    }

    @Case("IllegalArgumentException: n is not 0 .. 8")
    static void minusOneIsRefused() {
        noSuch(-1);
    }

    @Case("IllegalArgumentException: n is not 0 .. 8")
    static void nineIsRefused() {
        noSuch(9);
    }

    @Case("IllegalArgumentException: n is not 0 .. 8")
    static void theLeastIntIsRefused() {
        noSuch(Trial.LEAST);
    }

    @Case("IllegalArgumentException: n is not 0 .. 8")
    static void theGreatestIntIsRefused() {
        noSuch(Trial.GREATEST);
    }

    @Case("IllegalArgumentException: n is not 0 .. 8")
    static void nineIsRefusedOnANewObject() {
        Trial.refused(x -> { }, x -> x.begins(15, 0, 0, 9), Trial.ARGUMENT);
    }

    private static void foundIn(int fields, int... hits) {
        SegmentIndex x = new SegmentIndex();
        for (int field = 0; field < 4; field++) {
            x.token(field, 10 + field, A, field);
        }
        x.add();
        Check.due("begins", () -> x.begins(fields, A, -1, 4), hits.length / 3);
        Check.dueHits("found", x, hits);
    }

    @Case("likewise: FIELDS (as bits)")
    static void noBitIsNoField() {
        foundIn(0);
    }

    @Case("likewise: FIELDS (as bits)")
    static void theFirstBitIsFieldZero() {
        foundIn(1, 0, 0, 10);
    }

    @Case("likewise: FIELDS (as bits)")
    static void theFourthBitIsFieldThree() {
        foundIn(8, 0, 3, 13);
    }

    @Case("likewise: FIELDS (as bits)")
    static void fourBitsAreAllFields() {
        foundIn(15, 0, 0, 10, 0, 1, 11, 0, 2, 12, 0, 3, 13);
    }

    @Case("likewise: Other bits count for nothing")
    static void otherBitsAreNoField() {
        foundIn(16);
        foundIn(Trial.LEAST);
        foundIn(-16);
    }

    @Case("likewise: Other bits count for nothing")
    static void otherBitsBesideFields() {
        foundIn(-16 + 2, 0, 1, 11);
        foundIn(Trial.GREATEST, 0, 0, 10, 0, 1, 11, 0, 2, 12, 0, 3, 13);
    }

    @Case("A HIT is a document, a FIELD, a PLACE")
    static void severalTermsInOnePlaceAreOneHit() {
        SegmentIndex x = new SegmentIndex();
        x.token(1, 5, A, 3);
        x.token(1, 5, A, 1);
        x.token(1, 6, A, 2);
        x.token(1, 5, A, 2);
        x.add();
        Check.due("begins", () -> x.begins(15, A, 0, 4), 2);
        Check.dueHits("found", x, 0, 1, 5, 0, 1, 6);
    }

    @Case("likewise: The HITS come to the PILE")
    static void anIndexWithoutDocumentsGivesAnEmptySet() {
        SegmentIndex x = new SegmentIndex();
        Check.due("begins", () -> x.begins(15, 0, 0, 0), 0);
        Check.due("SETS", () -> x.count(5), 1);
    }

    @Case("likewise: The HITS come to the PILE")
    static void segmentsAndBufferAreSearchedAndNotTheHand() {
        SegmentIndex x = Trial.after(Trial::some);
        x.begins(15, 0, 0, 0);
        Check.dueHits("found", x, 1, 1, 5, 1, 1, 6, 2, 2, 7, 3, 3, 4095, 5, 0, 9, 6, 0, 8);
    }

    @Case("SETS of HITS stand on a PILE, at most 8")
    static void theEighthComes() {
        SegmentIndex x = with(A, B);
        Trial.pileUp(x, 7);
        Check.due("begins", () -> x.begins(15, A, B, 8), 1);
        Check.due("SETS", () -> x.count(5), 8);
    }

    private static void refusedAsTheNinth(int n) {
        Trial.refused(x -> {
            Trial.some(x);
            Trial.pileUp(x, 5);
        }, x -> x.begins(15, 0, 0, n), Trial.STATE);
    }

    @Case("IllegalStateException: 8 are there")
    static void theNinthIsRefused() {
        refusedAsTheNinth(0);
        refusedAsTheNinth(8);
    }

    @Case("IllegalStateException: 8 are there (this first)")
    static void theNinthIsToldBeforeAWrongN() {
        refusedAsTheNinth(-1);
        refusedAsTheNinth(9);
        refusedAsTheNinth(Trial.LEAST);
        refusedAsTheNinth(Trial.GREATEST);
    }
}
