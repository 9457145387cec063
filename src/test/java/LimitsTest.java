/**
 * The document's limits, most of which lie behind the 512th call: what is answered there is free, but
 * no call may throw by itself, and the counts are the plain ones.
 */
public final class LimitsTest {
    private static final int DOCUMENTS = 600;
    private static final int TOKENS = 120;
    private static final int[] ODD = {Integer.MIN_VALUE, -4097, -2, -1, 0, 1, 2, 3, 4, 7, 8, 9, 10, 11, 12, 15,
        100, 101, 511, 512, 599, 600, 4095, 4096, Integer.MAX_VALUE};

    public static void main(String[] args) {
        sixHundredEmpty();
        fullIndex();
        oddArguments(new SegmentIndex(), "new");
        oddArguments(someIndex(), "used");
        Check.end();
    }

    private static void sixHundredEmpty() {
        SegmentIndex x = new SegmentIndex();
        for (int i = 0; i < DOCUMENTS; i++) {
            Check.due("add " + i, x::add, i);
        }
        x.token(0, 0, 1, 0);
        Check.thrown("the 601st", x::add, IllegalStateException.class);
        Check.due("the hand stays", () -> x.count(3), 1);
        Check.due("600 came", () -> x.count(1), DOCUMENTS);
        Check.due("it is not there", () -> x.term(15, 1, 0), 0);
        // 50 flushes of 12: three of level 2 (48 of them), and two of level 0.
        Check.due("segments", () -> x.count(4), 5);
        Check.due("level", () -> x.segment(2, 0), 2);
        Check.due("documents", () -> x.segment(2, 1), 192);
        Check.due("last level", () -> x.segment(4, 0), 0);
        Check.due("pack", x::pack, DOCUMENTS);
    }

    private static void fullIndex() {
        SegmentIndex x = new SegmentIndex();
        for (int i = 0; i < DOCUMENTS; i++) {
            fillHand(x);
            x.add();
        }
        fillHand(x);
        Check.thrown("the 121st in hand", () -> x.token(3, 4000, 9, 9), IllegalStateException.class);
        Check.thrown("the 601st", x::add, IllegalStateException.class);
        int all = DOCUMENTS * TOKENS;
        for (int i = 0; i < 8; i++) {
            Check.due("every hit", () -> x.begins(15, 0, 0, 0), all);
        }
        Check.thrown("the ninth set", () -> x.term(15, 0, 0), IllegalStateException.class);
        Check.due("last hit", () -> x.hit(all - 1, 0), DOCUMENTS - 1);
        Check.due("documents", x::documents, DOCUMENTS);
        Check.due("best", () -> x.best(DOCUMENTS - 1), DOCUMENTS - 1);
        for (int how : new int[] {0, 1, 3}) {
            Check.due("join(" + how + ")", () -> x.join(how), all);
        }
        Check.due("join(2)", () -> x.join(2), 0);
        x.drop();
        // Places in a field lie four apart, and each of term 1 has one of term 0 ahead of it.
        Check.due("follow", () -> x.follow(1, 1, 4), DOCUMENTS * 60);
        for (int document = 0; document < DOCUMENTS; document += 2) {
            x.take(document);
        }
        Check.due("half is there", () -> x.count(0), DOCUMENTS / 2);
        Check.due("half is left", x::pack, DOCUMENTS / 2);
        Check.due("its tokens", () -> x.segment(0, 3), all / 2);
        Check.due("its terms", () -> x.segment(0, 2), 2);
    }

    /** Thirty places in each field, terms 0 and 1 by turns. */
    private static void fillHand(SegmentIndex x) {
        for (int i = 0; i < TOKENS; i++) {
            x.token(i % 4, i, i / 4 % 2, i / 4 % 2);
            x.token(i % 4, i, i / 4 % 2, i / 4 % 2);
        }
    }

    private static SegmentIndex someIndex() {
        SegmentIndex x = new SegmentIndex();
        for (int i = 0; i < 70; i++) {
            x.token(i % 4, i, i % 3, 0);
            x.add();
            if (i % 5 == 0) {
                x.take(i);
            }
        }
        x.token(1, 1, 1, 1);
        for (int i = 0; i < 5; i++) {
            x.term(15, i, 0);
        }
        return x;
    }

    /** Whatever the arguments, an answer or an exception that the document names for this call. */
    private static void oddArguments(SegmentIndex x, String state) {
        for (int p : ODD) {
            for (int q : ODD) {
                either(state + " token", () -> x.token(p, q, p, q));
                either(state + " term", () -> x.term(p, q, p));
                either(state + " begins", () -> x.begins(p, q, p, q));
                either(state + " follow", () -> x.follow(p, q, q));
                either(state + " hit", () -> x.hit(p, q));
                either(state + " segment", () -> x.segment(p, q));
            }
            either(state + " join", () -> x.join(p));
            either(state + " best", () -> x.best(p));
            either(state + " count", () -> x.count(p));
            takeEither(state, x, p);
            either(state + " drop", x::drop);
            either(state + " add", x::add);
            either(state + " flush", x::flush);
            either(state + " documents", x::documents);
        }
        either(state + " pack", x::pack);
    }

    private static void either(String what, Check.Call call) {
        try {
            call.answer();
        } catch (RuntimeException e) {
            boolean named = e.getClass() == IllegalArgumentException.class
                    || e.getClass() == IllegalStateException.class;
            Check.compare(what, named ? "named" : e.toString(), "named");
        }
    }

    private static void takeEither(String state, SegmentIndex x, int document) {
        try {
            x.take(document);
        } catch (RuntimeException e) {
            Check.compare(state + " take", e.getClass().getSimpleName(), "IndexOutOfBoundsException");
        }
    }
}
