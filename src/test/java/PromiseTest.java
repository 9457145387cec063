/** The sixteen promises one by one: ordinary inputs, the edges that the document names, wrong inputs. */
public final class PromiseTest {
    private static final Class<IllegalArgumentException> ARGUMENT = IllegalArgumentException.class;
    private static final Class<IllegalStateException> STATE = IllegalStateException.class;
    private static final Class<IndexOutOfBoundsException> INDEX = IndexOutOfBoundsException.class;
    private static final int[] WRONG_WHATS = {-1, 8, 9, 100, Integer.MIN_VALUE, Integer.MAX_VALUE};

    public static void main(String[] args) {
        newObject();
        token();
        tokenLimit();
        add();
        addFlushesAtTwelve();
        take();
        flush();
        flushMergesUpward();
        flushAfterTakes();
        pack();
        packLevels();
        term();
        begins();
        follow();
        followAtEnds();
        join();
        joinNear();
        joinWrong();
        drop();
        hit();
        documents();
        best();
        segment();
        count();
        pileKeepsItsSets();
        Check.end();
    }

    /** A new document with one token: field 0, place 0. */
    private static void addWord(SegmentIndex x, int word) {
        addAt(x, 0, 0, word);
    }

    private static void addAt(SegmentIndex x, int field, int place, int word) {
        x.token(field, place, word, 0);
        x.add();
    }

    private static void flushOne(SegmentIndex x, int word) {
        addWord(x, word);
        x.flush();
    }

    private static void newObject() {
        Check.due("1 NONE", () -> SegmentIndex.NONE, -1);
        SegmentIndex x = new SegmentIndex();
        for (int what = 0; what <= 7; what++) {
            int asked = what;
            Check.due("1 count(" + what + ")", () -> x.count(asked), 0);
        }
        Check.dueHits("1", x);
        Check.due("1 segment", () -> x.segment(0, 0), -1);
        SegmentIndex other = new SegmentIndex();
        addWord(other, 1);
        other.term(15, 1, 0);
        Check.due("1 objects share nothing", () -> x.count(1) + x.count(5), 0);
    }

    private static void token() {
        SegmentIndex x = new SegmentIndex();
        Check.due("2 first", () -> x.token(0, 0, 1, 2), 1);
        Check.due("2 last field and place", () -> x.token(3, 4095, 1, 2), 2);
        Check.due("2 again", () -> x.token(0, 0, 1, 2), 2);
        Check.due("2 other field", () -> x.token(1, 0, 1, 2), 3);
        Check.due("2 other place", () -> x.token(0, 1, 1, 2), 4);
        Check.due("2 other first int", () -> x.token(0, 0, 2, 2), 5);
        Check.due("2 other second int", () -> x.token(0, 0, 1, 1), 6);
        Check.due("2 second int below 0", () -> x.token(0, 0, 1, -1), 7);
        Check.due("2 second int does not reach the first", () -> x.token(0, 0, -1, -1), 8);
        Check.due("2 again, between others", () -> x.token(1, 0, 1, 2), 8);
        Check.due("2 again, in one place with others", () -> x.token(0, 0, 2, 2), 8);
        Check.due("2 again, in one place with others", () -> x.token(0, 0, -1, -1), 8);
        int[][] wrong = {{-1, 0}, {4, 0}, {0, -1}, {0, 4096}, {Integer.MIN_VALUE, 5}, {5, Integer.MAX_VALUE}};
        for (int[] w : wrong) {
            Check.thrown("2 token(" + w[0] + ", " + w[1] + ")", () -> x.token(w[0], w[1], 1, 2), ARGUMENT);
        }
        Check.due("2 wrong ones change nothing", () -> x.count(3), 8);
        x.add();
        Check.due("2 the next document begins anew", () -> x.token(0, 0, 1, 2), 1);
    }

    private static void tokenLimit() {
        SegmentIndex x = new SegmentIndex();
        for (int i = 0; i < 120; i++) {
            int place = (i * 77) % 120;
            Check.due("2 token " + i, () -> x.token(2, place, 5, 5), i + 1);
        }
        Check.thrown("2 the 121st", () -> x.token(2, 120, 5, 5), STATE);
        Check.due("2 one that it has is not one more", () -> x.token(2, 60, 5, 5), 120);
        Check.thrown("2 a wrong field comes first", () -> x.token(4, 60, 5, 5), ARGUMENT);
        Check.due("2 still 120", () -> x.count(3), 120);
        x.add();
        Check.due("2 all are found", () -> x.term(4, 5, 5), 120);
        for (int i = 0; i < 120; i++) {
            int k = i;
            Check.due("2 in the order of places", () -> x.hit(k, 2), i);
        }
    }

    private static void add() {
        SegmentIndex x = new SegmentIndex();
        x.token(0, 0, 1, 0);
        Check.due("3 not found in hand", () -> x.term(15, 1, 0), 0);
        Check.due("3 first", x::add, 0);
        Check.due("3 hand is empty", () -> x.count(3), 0);
        Check.due("3 found in the buffer", () -> x.term(15, 1, 0), 1);
        Check.due("3 without tokens", x::add, 1);
        x.take(1);
        Check.due("3 a number is not given again", x::add, 2);
    }

    private static void addFlushesAtTwelve() {
        SegmentIndex x = new SegmentIndex();
        for (int i = 0; i < 11; i++) {
            addWord(x, i % 5);
        }
        Check.due("3 eleven stay", () -> x.count(2), 11);
        x.take(4);
        addWord(x, 9);
        Check.due("3 a taken one is not in the buffer", () -> x.count(2) + 100 * x.count(4), 11);
        Check.due("3 the twelfth", x::add, 12);
        Check.due("3 buffer is empty", () -> x.count(2), 0);
        Check.due("3 a segment", () -> x.count(4), 1);
        Check.dueSegment("3", x, 0, 0, 12, 6, 11, -1);
    }

    private static void take() {
        SegmentIndex x = new SegmentIndex();
        Check.thrown("4 none came", () -> taken(x, 0), INDEX);
        flushOne(x, 1);
        addWord(x, 1);
        for (int wrong : new int[] {-1, 2, 599, 600, Integer.MIN_VALUE, Integer.MAX_VALUE}) {
            Check.thrown("4 take(" + wrong + ")", () -> taken(x, wrong), INDEX);
        }
        Check.silent("4 in the buffer", () -> x.take(1));
        Check.due("4 goes at once", () -> x.count(2), 0);
        Check.due("4 is not in a segment", () -> x.count(7), 0);
        Check.silent("4 in a segment", () -> x.take(0));
        Check.due("4 stays there", () -> x.count(7), 1);
        Check.dueSegment("4", x, 0, 0, 1, 1, 1);
        Check.due("4 is found no more", () -> x.term(15, 1, 0), 0);
        Check.due("4 none is there", () -> x.count(0), 0);
        Check.due("4 two came", () -> x.count(1), 2);
        Check.thrown("4 again, still in its segment", () -> taken(x, 0), INDEX);
        Check.thrown("4 again, gone", () -> taken(x, 1), INDEX);
        Check.due("4 wrong ones change nothing", () -> x.count(7), 1);
        x.token(0, 0, 1, 0);
        Check.thrown("4 in hand", () -> taken(x, 2), INDEX);
    }

    private static long taken(SegmentIndex x, int document) {
        x.take(document);
        return 0;
    }

    private static void flush() {
        SegmentIndex x = new SegmentIndex();
        Check.due("5 nothing", x::flush, 0);
        x.token(0, 0, 1, 0);
        Check.due("5 a token in hand", x::flush, 0);
        Check.due("5 which stays there", () -> x.count(3), 1);
        x.add();
        Check.due("5 one", x::flush, 1);
        Check.due("5 buffer is empty", () -> x.count(2), 0);
        Check.due("5 nothing more", x::flush, 1);
        x.add();
        x.take(1);
        Check.due("5 a taken one is none", x::flush, 1);
        Check.due("5 still found", () -> x.term(15, 1, 0), 1);
    }

    private static void flushMergesUpward() {
        SegmentIndex x = new SegmentIndex();
        int[] want = {1, 2, 3, 1, 2, 3, 4, 2, 3, 4, 5, 3, 4, 5, 6, 1, 2};
        for (int i = 0; i < want.length; i++) {
            addAt(x, 1, i, i % 3);
            Check.due("5 flush " + i, x::flush, want[i]);
        }
        Check.dueSegment("5", x, 0, 2, 16, 3, 16);
        Check.dueSegment("5", x, 1, 0, 1, 1, 1);
        Check.due("5 found in all segments", () -> x.term(2, 1, 0), 6);
        Check.dueHits("5", x, 1, 1, 1, 4, 1, 4, 7, 1, 7, 10, 1, 10, 13, 1, 13, 16, 1, 16);
    }

    private static void flushAfterTakes() {
        SegmentIndex x = new SegmentIndex();
        flushOne(x, 1);
        flushOne(x, 2);
        flushOne(x, 3);
        x.take(0);
        x.take(2);
        addWord(x, 1);
        Check.due("5 two taken", () -> x.count(7), 2);
        Check.due("5 four become one", x::flush, 1);
        Check.dueSegment("5 without the taken", x, 0, 1, 2, 2, 2);
        Check.due("5 none taken is left", () -> x.count(7), 0);
        x.take(1);
        x.take(3);
        Check.dueSegment("5 all taken, but unchanged", x, 0, 1, 2, 2, 2);
        for (int i = 0; i < 3; i++) {
            flushOne(x, 4);
        }
        flushOne(x, 5);
        Check.due("5 the older one is not put in", () -> x.count(4) * 10 + x.count(7), 22);
        Check.dueSegment("5", x, 1, 1, 4, 2, 4);
    }

    private static void pack() {
        SegmentIndex x = new SegmentIndex();
        Check.due("6 nothing", x::pack, 0);
        Check.due("6 no segment", () -> x.count(4), 0);
        x.token(1, 1, 1, 1);
        x.token(1, 2, 1, 1);
        x.add();
        x.token(3, 3, 3, 3);
        Check.due("6 buffer alone", x::pack, 1);
        Check.dueSegment("6", x, 0, 0, 1, 1, 2);
        Check.due("6 buffer is empty", () -> x.count(2), 0);
        Check.due("6 hand is left alone", () -> x.count(3), 1);
        x.add();
        Check.due("6 the next segment", x::flush, 2);
        Check.dueSegment("6 has what came after", x, 1, 0, 1, 1, 1);
        x.add();
        x.take(0);
        Check.due("6 segments and buffer", x::pack, 2);
        Check.due("6 one segment", () -> x.count(4), 1);
        Check.dueSegment("6", x, 0, 0, 2, 1, 1);
        Check.due("6 nothing to do", x::pack, 2);
        Check.thrown("6 the taken one is gone", () -> taken(x, 0), INDEX);
        Check.due("6 the others are found", () -> x.begins(15, 0, 0, 0), 1);
        x.take(1);
        x.take(2);
        Check.due("6 none is left", x::pack, 0);
        Check.due("6 so there is no segment", () -> x.count(4) + x.count(7) + x.count(0), 0);
    }

    private static void packLevels() {
        SegmentIndex x = new SegmentIndex();
        for (int i = 0; i < 5; i++) {
            flushOne(x, i);
        }
        x.take(0);
        addWord(x, 9);
        Check.due("6 five are left", x::pack, 5);
        Check.dueSegment("6 the highest level", x, 0, 1, 5, 5, 5);
        for (int document = 1; document < 6; document++) {
            x.take(document);
        }
        addWord(x, 7);
        Check.due("6 the newest alone", x::pack, 1);
        Check.dueSegment("6 of the level that there was", x, 0, 1, 1, 1, 1);
        x.take(6);
        x.pack();
        flushOne(x, 8);
        Check.dueSegment("6 from the bottom again", x, 0, 0, 1, 1, 1);
        x.pack();
        for (int i = 0; i < 3; i++) {
            flushOne(x, 8);
        }
        Check.dueSegment("6 a packed one is put together like others", x, 0, 1, 4, 1, 4);
    }

    private static void term() {
        SegmentIndex x = new SegmentIndex();
        for (int field = 0; field < 4; field++) {
            x.token(field, 9 - field, 7, -7);
        }
        x.token(0, 2, 7, -7);
        x.token(0, 3, 7, 7);
        x.add();
        x.flush();
        x.token(2, 0, 7, -7);
        x.add();
        Check.due("7 all fields", () -> x.term(15, 7, -7), 6);
        Check.dueHits("7", x, 0, 0, 2, 0, 0, 9, 0, 1, 8, 0, 2, 7, 0, 3, 6, 1, 2, 0);
        Check.due("7 one field", () -> x.term(4, 7, -7), 2);
        Check.dueHits("7", x, 0, 2, 7, 1, 2, 0);
        Check.due("7 two fields", () -> x.term(9, 7, -7), 3);
        Check.dueHits("7", x, 0, 0, 2, 0, 0, 9, 0, 3, 6);
        Check.due("7 no field", () -> x.term(0, 7, -7), 0);
        Check.due("7 other bits", () -> x.term(-16, 7, -7), 0);
        Check.due("7 other bits beside", () -> x.term(Integer.MIN_VALUE + 16 + 2, 7, -7), 1);
        Check.due("7 no such term", () -> x.term(15, 8, -7), 0);
        Check.due("7 the eighth", () -> x.term(-1, 7, 7), 1);
        Check.due("7 eight are there", () -> x.count(5), 8);
        Check.thrown("7 the ninth", () -> x.term(15, 7, -7), STATE);
        Check.due("7 the uppermost is as before", () -> x.count(6), 1);
    }

    private static void begins() {
        SegmentIndex x = new SegmentIndex();
        int[][] terms = {{0x01020304, 0x05060708}, {0x01020304, 0x05060709}, {0x01020304, 0x05060000},
            {0x01020304, 0x05000000}, {0x01020304, 0}, {0x01020300, 0}, {0x01020000, 0}, {0x01000000, 0},
            {0x81000000, 0x80000000}};
        for (int i = 0; i < terms.length; i++) {
            x.token(1, i, terms[i][0], terms[i][1]);
        }
        x.add();
        int[] want = {9, 8, 7, 6, 5, 4, 3, 2, 1};
        for (int n = 0; n <= 8; n++) {
            int bytes = n;
            Check.due("8 n = " + n, () -> x.begins(2, 0x01020304, 0x05060708, bytes), want[n]);
            x.drop();
        }
        Check.due("8 what is behind counts for nothing", () -> x.begins(2, 0x0102FFFF, -1, 2), 7);
        Check.due("8 highest byte above 127", () -> x.begins(2, 0x81FFFFFF, 3, 1), 1);
        Check.dueHits("8", x, 0, 1, 8);
        Check.due("8 fields", () -> x.begins(-3, 0, 0, 0), 0);
        for (int n : new int[] {-1, 9, 64, Integer.MIN_VALUE, Integer.MAX_VALUE}) {
            Check.thrown("8 n = " + n, () -> x.begins(15, 0, 0, n), ARGUMENT);
        }
        Check.due("8 wrong ones change nothing", () -> x.count(5), 3);
        for (int i = 3; i < 8; i++) {
            x.begins(15, 0, 0, 0);
        }
        Check.thrown("8 eight are there", () -> x.begins(15, 0, 0, 0), STATE);
        Check.thrown("8 which is said first", () -> x.begins(15, 0, 0, 9), STATE);
        hitsAreTakenOnce();
    }

    private static void hitsAreTakenOnce() {
        SegmentIndex x = new SegmentIndex();
        x.token(0, 5, 1, 1);
        x.token(0, 4, 1, 9);
        x.token(0, 5, 1, 2);
        x.token(0, 5, 1, 3);
        x.add();
        Check.due("8 terms in one place are one hit", () -> x.begins(1, 1, 0, 4), 2);
        Check.dueHits("8", x, 0, 0, 4, 0, 0, 5);
        x.flush();
        Check.dueSegment("8", x, 0, 0, 1, 4, 4);
    }

    private static void follow() {
        SegmentIndex x = new SegmentIndex();
        Check.thrown("9 empty pile", () -> x.follow(1, 1, 1), STATE);
        Check.thrown("9 which is said first", () -> x.follow(1, 1, 0), STATE);
        x.token(0, 10, 1, 0);
        x.token(0, 11, 2, 0);
        x.token(0, 12, 2, 0);
        x.token(1, 11, 2, 0);
        x.token(0, 9, 2, 0);
        x.add();
        x.token(0, 11, 2, 0);
        x.add();
        x.token(2, 20, 1, 0);
        x.token(2, 21, 2, 0);
        x.token(2, 21, 1, 0);
        x.token(2, 22, 2, 0);
        x.add();
        x.term(15, 1, 0);
        for (int n : new int[] {0, -1, 101, Integer.MIN_VALUE, Integer.MAX_VALUE}) {
            Check.thrown("9 n = " + n, () -> x.follow(2, 0, n), ARGUMENT);
        }
        Check.dueHits("9 wrong ones change nothing", x, 0, 0, 10, 2, 2, 20, 2, 2, 21);
        Check.due("9 one behind", () -> x.follow(2, 0, 1), 3);
        Check.dueHits("9", x, 0, 0, 11, 2, 2, 21, 2, 2, 22);
        Check.due("9 and on from there", () -> x.follow(2, 0, 1), 2);
        Check.dueHits("9", x, 0, 0, 12, 2, 2, 22);
        Check.due("9 in the uppermost set's place", () -> x.count(5), 1);
        x.drop();
        x.term(1, 1, 0);
        Check.due("9 two behind", () -> x.follow(2, 0, 2), 1);
        Check.dueHits("9", x, 0, 0, 12);
        x.term(15, 1, 0);
        x.take(0);
        Check.due("9 a taken document is found no more", () -> x.follow(2, 0, 1), 2);
        Check.due("9 the set below stays", () -> x.drop() + x.count(6), 2);
    }

    private static void followAtEnds() {
        SegmentIndex x = new SegmentIndex();
        x.token(0, 4095, 1, 0);
        x.token(1, 0, 2, 0);
        x.token(1, 99, 2, 0);
        x.token(1, 100, 2, 0);
        x.token(1, 3995, 1, 0);
        x.token(1, 4095, 2, 0);
        x.token(1, 0, 1, 0);
        x.add();
        x.term(15, 1, 0);
        Check.due("9 a hundred behind", () -> x.follow(2, 0, 100), 2);
        Check.dueHits("9", x, 0, 1, 100, 0, 1, 4095);
        x.term(1, 1, 0);
        Check.due("9 the next field is not behind", () -> x.follow(2, 0, 1), 0);
        x.token(3, 0, 3, 0);
        x.token(3, 1, 4, 0);
        x.add();
        x.drop();
        x.term(8, 3, 0);
        Check.due("9 in the last field", () -> x.follow(4, 0, 1), 1);
        for (int i = 2; i < 8; i++) {
            x.term(15, 1, 0);
        }
        Check.due("9 with a full pile", () -> x.follow(2, 0, 100), 2);
        Check.due("9 still full", () -> x.count(5), 8);
    }

    /** Word 1 in documents 0, 1, 2; word 2 in documents 1, 2, 3; both in one place of document 2. */
    private static SegmentIndex twoWords() {
        SegmentIndex x = new SegmentIndex();
        addAt(x, 0, 5, 1);
        x.token(1, 6, 1, 0);
        x.token(0, 9, 2, 0);
        x.token(3, 9, 2, 0);
        x.add();
        x.flush();
        x.token(2, 7, 1, 0);
        x.token(2, 7, 2, 0);
        x.add();
        addAt(x, 0, 5, 2);
        x.term(15, 1, 0);
        x.term(15, 2, 0);
        return x;
    }

    private static void join() {
        SegmentIndex both = twoWords();
        Check.due("10 how 0", () -> both.join(0), 4);
        Check.dueHits("10 how 0", both, 1, 0, 9, 1, 1, 6, 1, 3, 9, 2, 2, 7);
        Check.due("10 one set", () -> both.count(5), 1);
        SegmentIndex all = twoWords();
        Check.due("10 how 1", () -> all.join(1), 6);
        Check.dueHits("10 how 1", all, 0, 0, 5, 1, 0, 9, 1, 1, 6, 1, 3, 9, 2, 2, 7, 3, 0, 5);
        SegmentIndex less = twoWords();
        Check.due("10 how 2", () -> less.join(2), 1);
        Check.dueHits("10 how 2", less, 0, 0, 5);
        SegmentIndex near = twoWords();
        Check.due("10 how 3", () -> near.join(3), 1);
        Check.dueHits("10 how 3", near, 2, 2, 7);
        SegmentIndex empty = twoWords();
        empty.term(15, 9, 9);
        Check.due("10 without an empty set", () -> empty.join(2), 4);
        empty.term(15, 9, 9);
        Check.due("10 with an empty set", () -> empty.join(0), 0);
        Check.due("10 all, one of them empty", () -> empty.join(1), 3);
        Check.due("10 the pile", () -> empty.count(5), 1);
    }

    private static void joinNear() {
        SegmentIndex x = new SegmentIndex();
        x.token(1, 100, 1, 0);
        for (int place : new int[] {89, 90, 100, 110, 111}) {
            x.token(1, place, 2, 0);
        }
        x.token(2, 100, 2, 0);
        x.token(2, 4090, 1, 0);
        x.token(2, 4095, 2, 0);
        x.token(3, 0, 2, 0);
        x.token(3, 3, 1, 0);
        x.add();
        x.token(1, 100, 2, 0);
        x.add();
        x.term(15, 1, 0);
        x.term(15, 2, 0);
        Check.due("10 near", () -> x.join(3), 5);
        Check.dueHits("10 near", x, 0, 1, 90, 0, 1, 100, 0, 1, 110, 0, 2, 4095, 0, 3, 0);
        x.term(4, 1, 0);
        x.term(8, 2, 0);
        Check.due("10 the next field is not near", () -> x.join(3), 0);
        x.term(8, 2, 0);
        x.term(4, 2, 0);
        Check.due("10 nor the one before", () -> x.join(3), 0);
    }

    private static void joinWrong() {
        SegmentIndex x = new SegmentIndex();
        Check.thrown("10 no set", () -> x.join(0), STATE);
        x.term(15, 1, 0);
        Check.thrown("10 one set", () -> x.join(0), STATE);
        Check.thrown("10 which is said first", () -> x.join(4), STATE);
        x.term(15, 1, 0);
        for (int how : new int[] {-1, 4, Integer.MIN_VALUE, Integer.MAX_VALUE}) {
            Check.thrown("10 join(" + how + ")", () -> x.join(how), ARGUMENT);
        }
        Check.due("10 wrong ones change nothing", () -> x.count(5), 2);
    }

    private static void drop() {
        SegmentIndex x = twoWords();
        Check.due("11 one is left", x::drop, 1);
        Check.dueHits("11", x, 0, 0, 5, 1, 1, 6, 2, 2, 7);
        Check.due("11 none is left", x::drop, 0);
        Check.thrown("11 none", x::drop, STATE);
        Check.due("11 still none", () -> x.count(5) + x.count(6) + x.documents(), 0);
    }

    private static void hit() {
        SegmentIndex x = new SegmentIndex();
        Check.due("12 without a set", () -> x.hit(0, 0), -1);
        x.add();
        addAt(x, 3, 4095, 1);
        x.term(15, 1, 0);
        Check.dueHits("12", x, 1, 3, 4095);
        for (int k : new int[] {-1, 1, 2, 511, 512, 513, Integer.MIN_VALUE, Integer.MAX_VALUE}) {
            Check.due("12 hit(" + k + ", 0)", () -> x.hit(k, 0), -1);
        }
        for (int what : new int[] {-1, 3, 4, Integer.MIN_VALUE, Integer.MAX_VALUE}) {
            Check.due("12 hit(0, " + what + ")", () -> x.hit(0, what), -1);
        }
        x.drop();
        Check.due("12 none after it went", () -> x.hit(0, 0), -1);
    }

    private static void documents() {
        SegmentIndex x = new SegmentIndex();
        Check.due("13 without a set", x::documents, 0);
        x.term(15, 1, 0);
        Check.due("13 an empty set", x::documents, 0);
        x.token(0, 0, 1, 0);
        x.token(3, 4095, 1, 0);
        x.add();
        addWord(x, 2);
        addWord(x, 1);
        x.term(15, 1, 0);
        Check.due("13 two with three hits", x::documents, 2);
        x.term(2, 1, 0);
        Check.due("13 none in this field", x::documents, 0);
    }

    private static void best() {
        SegmentIndex x = new SegmentIndex();
        Check.due("14 without a set", () -> x.best(0), -1);
        int[] hits = {1, 3, 0, 2, 3, 1, 11};
        for (int times : hits) {
            for (int place = 0; place < times; place++) {
                x.token(place % 4, place, 1, 0);
            }
            x.add();
        }
        x.term(15, 1, 0);
        int[] want = {6, 1, 4, 3, 0, 5, -1};
        for (int k = 0; k < want.length; k++) {
            int asked = k;
            Check.due("14 best(" + k + ")", () -> x.best(asked), want[k]);
        }
        for (int k : new int[] {-1, 511, 512, Integer.MIN_VALUE, Integer.MAX_VALUE}) {
            Check.due("14 best(" + k + ")", () -> x.best(k), -1);
        }
        x.term(2, 1, 0);
        Check.due("14 of this field", () -> x.best(1), 1);
        Check.due("14 the set is as before", () -> x.count(6), 6);
    }

    private static void segment() {
        SegmentIndex x = new SegmentIndex();
        x.token(0, 0, 1, 1);
        x.token(0, 1, 1, 1);
        x.token(0, 1, 1, -1);
        x.add();
        x.token(0, 0, -1, 1);
        x.token(0, 0, 1, 1);
        x.add();
        x.add();
        Check.dueSegment("15 the buffer is none", x, 0, -1, -1, -1, -1);
        x.flush();
        flushOne(x, 5);
        Check.dueSegment("15 the oldest first", x, 0, 0, 3, 3, 5, -1);
        Check.dueSegment("15", x, 1, 0, 1, 1, 1, -1);
        x.take(0);
        Check.dueSegment("15 taken ones too", x, 0, 0, 3, 3, 5, -1);
        for (int wrong : new int[] {-1, 2, 10, Integer.MIN_VALUE, Integer.MAX_VALUE}) {
            Check.dueSegment("15", x, wrong, -1, -1, -1, -1);
        }
        for (int what : new int[] {-1, 4, Integer.MIN_VALUE, Integer.MAX_VALUE}) {
            Check.due("15 segment(0, " + what + ")", () -> x.segment(0, what), -1);
        }
        x.pack();
        Check.dueSegment("15 without the taken one", x, 0, 0, 3, 3, 3, -1);
    }

    private static void count() {
        SegmentIndex x = new SegmentIndex();
        for (int i = 0; i < 14; i++) {
            addWord(x, 1);
        }
        x.take(0);
        x.take(5);
        x.take(11);
        x.take(12);
        x.token(0, 0, 1, 0);
        x.token(0, 1, 1, 0);
        x.term(15, 1, 0);
        x.term(15, 2, 0);
        x.term(15, 1, 0);
        int[] want = {10, 14, 1, 2, 1, 3, 10, 3};
        for (int what = 0; what < want.length; what++) {
            int asked = what;
            Check.due("16 count(" + what + ")", () -> x.count(asked), want[what]);
        }
        for (int what : WRONG_WHATS) {
            Check.due("16 count(" + what + ")", () -> x.count(what), -1);
        }
    }

    /** A set stands as it was made, whatever becomes of the documents and the sets above it. */
    private static void pileKeepsItsSets() {
        SegmentIndex x = twoWords();
        x.term(15, 1, 0);
        x.take(2);
        x.take(0);
        x.pack();
        x.follow(2, 0, 1);
        Check.due("7 to 11 made of what is there", () -> x.count(6), 0);
        x.drop();
        Check.dueHits("7 to 11 the upper one", x, 1, 0, 9, 1, 3, 9, 2, 2, 7, 3, 0, 5);
        x.drop();
        Check.dueHits("7 to 11 the lower one", x, 0, 0, 5, 1, 1, 6, 2, 2, 7);
    }
}
