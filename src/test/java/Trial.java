/**
 * What the cases of a promise share. A state is told as the steps that lead to it from a new object,
 * so that it can be made anew: one object then hears the call that is tried and a twin does not, and
 * all that can be asked of the two is set side by side.
 */
final class Trial {
    interface Steps {
        void on(SegmentIndex x);
    }

    interface Use {
        long on(SegmentIndex x);
    }

    private interface Reader {
        void read(SegmentIndex x, StringBuilder into);
    }

    static final Class<IllegalArgumentException> ARGUMENT = IllegalArgumentException.class;
    static final Class<IllegalStateException> STATE = IllegalStateException.class;
    static final Class<IndexOutOfBoundsException> INDEX = IndexOutOfBoundsException.class;
    static final int LEAST = Integer.MIN_VALUE;
    static final int GREATEST = Integer.MAX_VALUE;
    static final int NONE = -1;

    // Each reader has an object of its own, as some of them change it and none may pass the 512th call.
    private static final Reader[] READERS = {
        Trial::readQuestions,
        Trial::readPile,
        Trial::readPacked,
        (x, into) -> readHits(x, 0, 0, into),
        (x, into) -> readHits(x, 1, 8, into),
        (x, into) -> readHits(x, 2, 8, into),
        (x, into) -> readHits(x, 3, 8, into),
    };

    private Trial() {
    }

    /** The call throws this, and leaves all as it was. */
    static void refused(Steps steps, Use call, Class<? extends RuntimeException> want) {
        SegmentIndex x = after(steps);
        Check.thrown("the call", () -> call.on(x), want);
        Check.thrown("the call once more", () -> call.on(x), want);
        unchanged(steps, call);
    }

    /** The call answers this, and leaves all as it was. */
    static void asked(Steps steps, Use call, long want) {
        SegmentIndex x = after(steps);
        Check.due("the call", () -> call.on(x), want);
        Check.due("the call once more", () -> call.on(x), want);
        unchanged(steps, call);
    }

    static SegmentIndex after(Steps steps) {
        SegmentIndex x = new SegmentIndex();
        steps.on(x);
        return x;
    }

    private static void unchanged(Steps steps, Use call) {
        String heard = stateAfter(x -> {
            steps.on(x);
            Check.answerOf(() -> call.on(x));
        });
        Check.compare("the state behind the call", heard, stateAfter(steps));
    }

    /** All that can be asked of the index, as a text. */
    static String stateAfter(Steps steps) {
        StringBuilder state = new StringBuilder();
        for (Reader reader : READERS) {
            reader.read(after(steps), state);
            state.append('|');
        }
        return state.toString();
    }

    private static void readQuestions(SegmentIndex x, StringBuilder into) {
        for (int what = 0; what <= 7; what++) {
            into.append(x.count(what)).append(' ');
        }
        readSegments(x, into);
        for (int k = 0, documents = x.documents(); k < documents; k++) {
            into.append(x.best(k)).append(' ');
        }
    }

    private static void readSegments(SegmentIndex x, StringBuilder into) {
        for (int i = 0, segments = x.count(4); i < segments; i++) {
            for (int what = 0; what <= 3; what++) {
                into.append(x.segment(i, what)).append(' ');
            }
        }
    }

    private static void readPile(SegmentIndex x, StringBuilder into) {
        for (int sets = x.count(5); sets > 0; sets--) {
            readSet(x, into);
            x.drop();
            into.append('/');
        }
    }

    private static void readSet(SegmentIndex x, StringBuilder into) {
        for (int k = 0, hits = x.count(6); k < hits; k++) {
            into.append(x.hit(k, 0)).append(',').append(x.hit(k, 1)).append(',').append(x.hit(k, 2)).append(' ');
        }
    }

    private static void readPacked(SegmentIndex x, StringBuilder into) {
        into.append(x.pack()).append(' ');
        readSegments(x, into);
    }

    /** The document in hand comes too, so that its tokens can be seen. */
    private static void readHits(SegmentIndex x, int word, int bytes, StringBuilder into) {
        into.append(Check.answerOf(x::add)).append(' ');
        for (int sets = x.count(5); sets > 0; sets--) {
            x.drop();
        }
        x.begins(15, word, 0, bytes);
        readSet(x, into);
    }

    static long taken(SegmentIndex x, int document) {
        x.take(document);
        return 0;
    }

    /** A document with one token comes. */
    static void come(SegmentIndex x, int field, int place, int word) {
        x.token(field, place, word, 0);
        x.add();
    }

    /** So many documents come, each with the word at place 0 of field 0. */
    static void comeTimes(SegmentIndex x, int times, int word) {
        for (int i = 0; i < times; i++) {
            come(x, 0, 0, word);
        }
    }

    /** So many documents without tokens come. */
    static void comeEmpty(SegmentIndex x, int times) {
        for (int i = 0; i < times; i++) {
            x.add();
        }
    }

    /** So many times a document comes and the buffer is flushed. */
    static void flushTimes(SegmentIndex x, int times, int word) {
        for (int i = 0; i < times; i++) {
            come(x, 0, 0, word);
            x.flush();
        }
    }

    /** So many tokens of word 1 in hand, from the last place down. */
    static void holdTokens(SegmentIndex x, int tokens) {
        for (int i = tokens - 1; i >= 0; i--) {
            x.token(i % 4, i / 4, 1, 0);
        }
    }

    /** So many sets, all of them empty as long as nobody has the word 99. */
    static void pileUp(SegmentIndex x, int sets) {
        for (int i = 0; i < sets; i++) {
            x.term(15, 99, 99);
        }
    }

    /** Two segments, one document taken from them, a buffer that lost one, a hand, and three sets. */
    static void some(SegmentIndex x) {
        come(x, 0, 0, 1);
        x.token(1, 5, 2, 0);
        x.token(1, 6, 1, 0);
        x.add();
        x.flush();
        come(x, 2, 7, 2);
        come(x, 3, 4095, 3);
        x.flush();
        x.take(0);
        come(x, 0, 9, 1);
        come(x, 0, 9, 2);
        x.take(4);
        come(x, 0, 8, 1);
        x.token(0, 3, 3, 0);
        x.token(0, 4, 2, 0);
        x.term(15, 1, 0);
        x.term(15, 99, 99);
        x.term(15, 2, 0);
    }
}
