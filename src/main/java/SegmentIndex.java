import java.util.ArrayList;
import java.util.Arrays;

/**
 * An index of documents in segments that are never changed, only put together.
 *
 * <p>Documents are numbered as they come, and segments are made of neighbours, so every segment is a
 * stretch of document numbers. All tokens therefore stand in one row, in the order of hits, and a
 * segment only tells where its stretch begins and what was counted when it was made.
 */
public final class SegmentIndex {
    public static final int NONE = -1;

    private static final int FIELDS = 4;
    private static final int ALL_FIELDS = 15;
    private static final int PLACES = 4096;
    private static final int MOST_DOCUMENTS = 600;
    private static final int MOST_TOKENS = 120;
    private static final int MOST_SETS = 8;
    private static final int FULL_BUFFER = 12;
    private static final int MERGED_AT_ONCE = 4;
    private static final int TERM_BYTES = 8;
    private static final int FARTHEST_BEHIND = 100;
    private static final int NEAR = 10;

    // A hit is one int, document, field and place from the highest bit down, so that the order of
    // hits is the order of ints.
    private static final int PLACE_BITS = 12;
    private static final int SPOT_BITS = 14;
    private static final int DOCUMENT_BITS = 10;

    // What becomes of a document, from its coming to its end.
    private static final int BUFFERED = 0;
    private static final int KEPT = 1;
    private static final int TAKEN = 2;
    private static final int GONE = 3;
    private static final int STATES = 4;

    // Every token costs a call, so within 512 calls no row of this length is outgrown.
    private static final int ROW = 512;

    private final Shelf shelf = new Shelf();
    private final ArrayList<Segment> segments = new ArrayList<>();
    private final Pile pile = new Pile();
    private final Keys keys = new Keys();
    private int bufferFirst = 0;

    public SegmentIndex() {
    }

    public int token(int field, int place, int a, int b)
            throws IllegalArgumentException, IllegalStateException {
        if (field < 0 || field >= FIELDS || place < 0 || place >= PLACES) {
            throw new IllegalArgumentException("no such field or place");
        }
        int hit = hitOf(shelf.came, field, place);
        long term = termOf(a, b);
        int at = shelf.spotInHand(hit, term);
        if (!shelf.handHasBefore(at, hit, term)) {
            if (shelf.inHand() >= MOST_TOKENS) {
                throw new IllegalStateException("a document has at most 120 tokens");
            }
            shelf.tokens.insert(at, hit, term);
        }
        return shelf.inHand();
    }

    public int add() throws IllegalStateException {
        if (shelf.came >= MOST_DOCUMENTS) {
            throw new IllegalStateException("600 documents have come");
        }
        int document = shelf.bringHand();
        if (shelf.inState[BUFFERED] >= FULL_BUFFER) {
            flushBuffer();
        }
        return document;
    }

    public void take(int document) throws IndexOutOfBoundsException {
        if (!shelf.isThere(document)) {
            throw new IndexOutOfBoundsException("no such document");
        }
        shelf.move(document, shelf.stateOf(document) == BUFFERED ? GONE : TAKEN);
    }

    public int flush() {
        flushBuffer();
        return segments.size();
    }

    public int pack() {
        int level = highestLevel();
        cutSegments(0);
        int held = putTogether(0, level);
        bufferFirst = shelf.came;
        return held;
    }

    public int term(int fields, int a, int b) throws IllegalStateException {
        if (pile.height >= MOST_SETS) {
            throw new IllegalStateException("8 sets are on the pile");
        }
        shelf.gather(fields, termOf(a, b), TERM_BYTES, pile.spare());
        return pile.settle(0);
    }

    public int begins(int fields, int a, int b, int n)
            throws IllegalArgumentException, IllegalStateException {
        if (pile.height >= MOST_SETS) {
            throw new IllegalStateException("8 sets are on the pile");
        }
        if (n < 0 || n > TERM_BYTES) {
            throw new IllegalArgumentException("n is not 0 .. 8");
        }
        shelf.gather(fields, termOf(a, b), n, pile.spare());
        return pile.settle(0);
    }

    public int follow(int a, int b, int n) throws IllegalArgumentException, IllegalStateException {
        if (pile.height < 1) {
            throw new IllegalStateException("the pile is empty");
        }
        if (n < 1 || n > FARTHEST_BEHIND) {
            throw new IllegalArgumentException("n is not 1 .. 100");
        }
        HitSet made = pile.spare();
        shelf.gather(ALL_FIELDS, termOf(a, b), TERM_BYTES, made);
        made.keepByDistance(pile.uppermost(), -n, -n);
        return pile.settle(1);
    }

    public int join(int how) throws IllegalArgumentException, IllegalStateException {
        if (pile.height < 2) {
            throw new IllegalStateException("there are not two sets");
        }
        if (how < 0 || how > 3) {
            throw new IllegalArgumentException("no such how");
        }
        joinInto(pile.spare(), pile.sets[pile.height - 2], pile.sets[pile.height - 1], how);
        return pile.settle(2);
    }

    public int drop() throws IllegalStateException {
        if (pile.height < 1) {
            throw new IllegalStateException("the pile is empty");
        }
        pile.height--;
        return pile.height;
    }

    public int hit(int k, int what) {
        HitSet set = pile.uppermost();
        if (k < 0 || k >= set.size) {
            return NONE;
        }
        int hit = set.hits[k];
        switch (what) {
            case 0:
                return documentOf(hit);
            case 1:
                return fieldOf(hit);
            case 2:
                return placeOf(hit);
            default:
                return NONE;
        }
    }

    public int documents() {
        HitSet set = pile.uppermost();
        int different = 0;
        for (int i = 0; i < set.size; i++) {
            if (set.endsDocument(i)) {
                different++;
            }
        }
        return different;
    }

    public int best(int k) {
        rankDocuments(pile.uppermost());
        if (k < 0 || k >= keys.size) {
            return NONE;
        }
        return (int) (keys.row[k] & ((1 << DOCUMENT_BITS) - 1));
    }

    public int segment(int segment, int what) {
        if (segment < 0 || segment >= segments.size()) {
            return NONE;
        }
        Segment told = segments.get(segment);
        switch (what) {
            case 0:
                return told.level;
            case 1:
                return told.held;
            case 2:
                return told.terms;
            case 3:
                return told.tokens;
            default:
                return NONE;
        }
    }

    public int count(int what) {
        switch (what) {
            case 0:
                return shelf.inState[BUFFERED] + shelf.inState[KEPT];
            case 1:
                return shelf.came;
            case 2:
                return shelf.inState[BUFFERED];
            case 3:
                return shelf.inHand();
            case 4:
                return segments.size();
            case 5:
                return pile.height;
            case 6:
                return pile.uppermost().size;
            case 7:
                return shelf.inState[TAKEN];
            default:
                return NONE;
        }
    }

    private void flushBuffer() {
        putTogether(bufferFirst, 0);
        bufferFirst = shelf.came;
        for (int round = 0; round < MOST_DOCUMENTS && lastFourAreAlike(); round++) {
            mergeLastFour();
        }
    }

    private boolean lastFourAreAlike() {
        int from = segments.size() - MERGED_AT_ONCE;
        if (from < 0) {
            return false;
        }
        int level = segments.get(from).level;
        for (int i = from + 1; i < segments.size(); i++) {
            if (segments.get(i).level != level) {
                return false;
            }
        }
        return true;
    }

    private void mergeLastFour() {
        int from = segments.size() - MERGED_AT_ONCE;
        if (from < 0) {
            return;
        }
        Segment oldest = segments.get(from);
        cutSegments(from);
        putTogether(oldest.first, oldest.level + 1);
    }

    private void cutSegments(int left) {
        for (int last = segments.size() - 1; last >= left && last >= 0; last--) {
            segments.remove(last);
        }
    }

    private int highestLevel() {
        int highest = 0;
        for (int i = 0; i < segments.size(); i++) {
            highest = Math.max(highest, segments.get(i).level);
        }
        return highest;
    }

    /**
     * Makes one segment of all documents from the first one on and answers how many it has. It always
     * reaches to the newest document: the buffer is empty by then, or is itself put in.
     */
    private int putTogether(int first, int level) {
        keys.clear();
        int held = 0;
        for (int document = first; document < shelf.came; document++) {
            shelf.moveOn(document);
            if (shelf.stateOf(document) == KEPT) {
                held++;
                shelf.listTerms(document, keys);
            }
        }
        if (held > 0) {
            segments.add(new Segment(first, level, held, keys.different(), keys.size));
        }
        return held;
    }

    private static void joinInto(HitSet made, HitSet x, HitSet y, int how) {
        switch (how) {
            case 0:
                made.unite(x, y);
                made.keepByDocument(x, true);
                made.keepByDocument(y, true);
                break;
            case 1:
                made.unite(x, y);
                break;
            case 2:
                made.copy(x);
                made.keepByDocument(y, false);
                break;
            default:
                made.copy(y);
                made.keepByDistance(x, -NEAR, NEAR);
                break;
        }
    }

    /** The keys become the documents of a set, the best first: more hits make a lower key. */
    private void rankDocuments(HitSet set) {
        keys.clear();
        int hits = 0;
        for (int i = 0; i < set.size; i++) {
            hits++;
            if (set.endsDocument(i)) {
                keys.put(((long) -hits << DOCUMENT_BITS) | documentOf(set.hits[i]));
                hits = 0;
            }
        }
        keys.sort();
    }

    private static long termOf(int a, int b) {
        return ((long) a << 32) | (b & 0xFFFFFFFFL);
    }

    private static int hitOf(int document, int field, int place) {
        return (document << SPOT_BITS) | (field << PLACE_BITS) | place;
    }

    private static int documentOf(int hit) {
        return hit >> SPOT_BITS;
    }

    private static int fieldOf(int hit) {
        return (hit >> PLACE_BITS) & (FIELDS - 1);
    }

    private static int placeOf(int hit) {
        return hit & (PLACES - 1);
    }

    /** What was counted when the segment was made; it holds for as long as the segment stands. */
    private static final class Segment {
        final int first;
        final int level;
        final int held;
        final int terms;
        final int tokens;

        Segment(int first, int level, int held, int terms, int tokens) {
            this.first = first;
            this.level = level;
            this.held = held;
            this.terms = terms;
            this.tokens = tokens;
        }
    }

    /** All tokens that ever came, in the order of their hits; those in hand stand last. */
    private static final class Tokens {
        int[] hits = new int[ROW];
        long[] terms = new long[ROW];
        int size = 0;

        void insert(int at, int hit, long term) {
            if (at < 0 || at > size) {
                return;
            }
            if (size >= hits.length) {
                hits = Arrays.copyOf(hits, 2 * hits.length);
                terms = Arrays.copyOf(terms, hits.length);
            }
            System.arraycopy(hits, at, hits, at + 1, size - at);
            System.arraycopy(terms, at, terms, at + 1, size - at);
            hits[at] = hit;
            terms[at] = term;
            size++;
        }
    }

    /** The documents that came, what has become of each, and the one in hand behind them. */
    private static final class Shelf {
        final Tokens tokens = new Tokens();
        final int[] states = new int[MOST_DOCUMENTS];
        final int[] starts = new int[MOST_DOCUMENTS + 1];
        final int[] inState = new int[STATES];
        int came = 0;

        int inHand() {
            return tokens.size - starts[came];
        }

        /** Where a token belongs among those in hand; an equal one stands just before. */
        int spotInHand(int hit, long term) {
            int at = tokens.size;
            while (at > starts[came] && comesAfter(at - 1, hit, term)) {
                at--;
            }
            return at;
        }

        private boolean comesAfter(int i, int hit, long term) {
            return tokens.hits[i] > hit || (tokens.hits[i] == hit && tokens.terms[i] > term);
        }

        boolean handHasBefore(int at, int hit, long term) {
            return at > starts[came] && tokens.hits[at - 1] == hit && tokens.terms[at - 1] == term;
        }

        int bringHand() {
            if (came >= MOST_DOCUMENTS) {
                return NONE;
            }
            int document = came;
            states[document] = BUFFERED;
            inState[BUFFERED]++;
            came++;
            starts[came] = tokens.size;
            return document;
        }

        int stateOf(int document) {
            return document < 0 || document >= came ? GONE : states[document];
        }

        boolean isThere(int document) {
            int state = stateOf(document);
            return state == BUFFERED || state == KEPT;
        }

        void move(int document, int state) {
            if (document < 0 || document >= came) {
                return;
            }
            inState[states[document]]--;
            inState[state]++;
            states[document] = state;
        }

        /** What becomes of a document when what it is in becomes another segment. */
        void moveOn(int document) {
            int state = stateOf(document);
            if (state == BUFFERED) {
                move(document, KEPT);
            } else if (state == TAKEN) {
                move(document, GONE);
            }
        }

        void listTerms(int document, Keys into) {
            if (document < 0 || document >= came) {
                return;
            }
            for (int i = starts[document]; i < starts[document + 1]; i++) {
                into.put(tokens.terms[i]);
            }
        }

        /** The hits of all terms that have the same first bytes, of the documents that are there. */
        void gather(int fields, long term, int bytes, HitSet into) {
            // A shift by 64 would be one by 0.
            long mask = bytes <= 0 ? 0L : -1L << (64 - 8 * bytes);
            for (int document = 0; document < came; document++) {
                if (isThere(document)) {
                    gatherFrom(document, fields, term & mask, mask, into);
                }
            }
        }

        private void gatherFrom(int document, int fields, long wanted, long mask, HitSet into) {
            for (int i = starts[document]; i < starts[document + 1]; i++) {
                int hit = tokens.hits[i];
                if ((tokens.terms[i] & mask) == wanted && ((fields >> fieldOf(hit)) & 1) != 0) {
                    into.put(hit);
                }
            }
        }
    }

    /** Hits in their order, each once. */
    private static final class HitSet {
        int[] hits = new int[ROW];
        int size = 0;

        void clear() {
            size = 0;
        }

        /** Hits come in their order; terms at the same place, or sets that share a hit, give it twice. */
        void put(int hit) {
            if (size > 0 && hits[size - 1] == hit) {
                return;
            }
            if (size >= hits.length) {
                hits = Arrays.copyOf(hits, 2 * hits.length);
            }
            hits[size] = hit;
            size++;
        }

        void copy(HitSet other) {
            clear();
            for (int i = 0; i < other.size; i++) {
                put(other.hits[i]);
            }
        }

        void unite(HitSet x, HitSet y) {
            clear();
            int i = 0;
            int j = 0;
            while (i < x.size || j < y.size) {
                if (j >= y.size || (i < x.size && x.hits[i] <= y.hits[j])) {
                    put(x.hits[i]);
                    i++;
                } else {
                    put(y.hits[j]);
                    j++;
                }
            }
        }

        boolean endsDocument(int i) {
            return i + 1 >= size || documentOf(hits[i + 1]) != documentOf(hits[i]);
        }

        private boolean hasWithin(int lowest, int highest) {
            int low = 0;
            int high = size;
            while (low < high) {
                int middle = (low + high) >>> 1;
                if (hits[middle] < lowest) {
                    low = middle + 1;
                } else {
                    high = middle;
                }
            }
            return low < size && hits[low] <= highest;
        }

        private boolean hasDocument(int document) {
            return hasWithin(hitOf(document, 0, 0), hitOf(document, FIELDS - 1, PLACES - 1));
        }

        /** Whether it has a hit in the same field whose place lies within these distances of this one. */
        private boolean hasAtDistance(int hit, int lowest, int highest) {
            int place = placeOf(hit);
            int fieldStart = hit - place;
            // Cut off at the field's ends, or the neighbouring field's places would count.
            int first = Math.max(place + lowest, 0);
            int last = Math.min(place + highest, PLACES - 1);
            return hasWithin(fieldStart + first, fieldStart + last);
        }

        void keepByDocument(HitSet other, boolean inOther) {
            int kept = 0;
            for (int i = 0; i < size; i++) {
                if (other.hasDocument(documentOf(hits[i])) == inOther) {
                    hits[kept] = hits[i];
                    kept++;
                }
            }
            size = kept;
        }

        void keepByDistance(HitSet other, int lowest, int highest) {
            int kept = 0;
            for (int i = 0; i < size; i++) {
                if (other.hasAtDistance(hits[i], lowest, highest)) {
                    hits[kept] = hits[i];
                    kept++;
                }
            }
            size = kept;
        }
    }

    /** The sets from the lowest up. The one above the uppermost is spare: a new set is made in it. */
    private static final class Pile {
        final HitSet[] sets = new HitSet[MOST_SETS + 1];
        int height = 0;

        Pile() {
            for (int i = 0; i < sets.length; i++) {
                sets[i] = new HitSet();
            }
        }

        HitSet spare() {
            HitSet spare = sets[height];
            spare.clear();
            return spare;
        }

        /** Without a set on the pile the spare one, which is empty, answers for it. */
        HitSet uppermost() {
            return height < 1 ? spare() : sets[height - 1];
        }

        /** The set made in the spare one takes the place of some uppermost ones: how many hits. */
        int settle(int replaced) {
            int at = height - replaced;
            if (at < 0 || at >= MOST_SETS) {
                return NONE;
            }
            HitSet made = sets[height];
            sets[height] = sets[at];
            sets[at] = made;
            height = at + 1;
            return made.size;
        }
    }

    /** A row of numbers to be put in order, used again by every call that needs one. */
    private static final class Keys {
        long[] row = new long[ROW];
        int size = 0;

        void clear() {
            size = 0;
        }

        void put(long key) {
            if (size >= row.length) {
                row = Arrays.copyOf(row, 2 * row.length);
            }
            row[size] = key;
            size++;
        }

        int different() {
            sort();
            int different = 0;
            for (int i = 0; i < size; i++) {
                if (i == 0 || row[i] != row[i - 1]) {
                    different++;
                }
            }
            return different;
        }

        void sort() {
            for (int root = size / 2 - 1; root >= 0; root--) {
                sink(root, size);
            }
            for (int end = size - 1; end > 0; end--) {
                long greatest = row[0];
                row[0] = row[end];
                row[end] = greatest;
                sink(0, end);
            }
        }

        private void sink(int root, int end) {
            long key = row[root];
            int at = root;
            int child = 2 * at + 1;
            while (child < end) {
                if (child + 1 < end && row[child + 1] > row[child]) {
                    child++;
                }
                if (row[child] <= key) {
                    break;
                }
                row[at] = row[child];
                at = child;
                child = 2 * at + 1;
            }
            row[at] = key;
        }
    }
}
