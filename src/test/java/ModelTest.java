import java.util.Random;

/** Long runs of calls in no special order, each answer set against that of a plain model. */
public final class ModelTest {
    private static final int RUNS = 600;
    private static final int CALLS = 512;
    private static final int ENOUGH_FAULTS = 20;

    private final Random random;
    private final SegmentIndex index = new SegmentIndex();
    private final Model model = new Model();
    private final int flavour;

    private ModelTest(int seed) {
        this.random = new Random(seed);
        this.flavour = seed % 4;
    }

    public static void main(String[] args) {
        for (int seed = 0; seed < RUNS && Check.wrongSoFar() < ENOUGH_FAULTS; seed++) {
            ModelTest run = new ModelTest(seed);
            for (int call = 0; call < CALLS && Check.wrongSoFar() < ENOUGH_FAULTS; call++) {
                run.step("run " + seed + ", call " + call + ": ");
            }
        }
        Check.end();
    }

    /** Mostly one of a few, so that words and places meet; now and then one from outside. */
    private int near(int from, int past) {
        return random.nextInt(40) == 0 ? random.nextInt() : from + random.nextInt(past - from);
    }

    private int word() {
        int[] words = {0, 1, 0x0100, 0x01000000, 0x81000000, -1};
        return words[random.nextInt(flavour < 2 ? 3 : words.length)];
    }

    private int place() {
        switch (random.nextInt(30)) {
            case 0:
                return 4080 + random.nextInt(17);
            case 1:
                return random.nextInt(4100) - 2;
            default:
                return random.nextInt(flavour == 1 ? 12 : 60);
        }
    }

    private int fields() {
        return random.nextInt(3) == 0 ? random.nextInt() : random.nextInt(16);
    }

    private void step(String at) {
        int kind = random.nextInt(100);
        if (kind < (flavour == 3 ? 20 : 40)) {
            token(at);
        } else if (kind < 52) {
            same(at + "add", index::add, model::add);
        } else if (kind < 60) {
            keep(at);
        } else if (kind < 78) {
            search(at);
        } else {
            ask(at);
        }
    }

    private void token(String at) {
        int field = near(0, flavour == 1 ? 1 : 4);
        int place = place();
        int a = word();
        int b = flavour == 2 ? 0 : word();
        String call = at + "token(" + field + ", " + place + ", " + a + ", " + b + ")";
        same(call, () -> index.token(field, place, a, b), () -> model.token(field, place, a, b));
    }

    private void keep(String at) {
        int kind = random.nextInt(20);
        if (kind < 9) {
            int document = near(-1, model.count(1) + 1);
            same(at + "take(" + document + ")", () -> {
                index.take(document);
                return 0;
            }, () -> model.take(document));
        } else if (kind < 19) {
            same(at + "flush", index::flush, model::flush);
        } else {
            same(at + "pack", index::pack, model::pack);
        }
    }

    private void search(String at) {
        int fields = fields();
        int a = word();
        int b = flavour == 2 ? 0 : word();
        int n = near(-1, 10);
        int kind = random.nextInt(10);
        if (kind < 3) {
            same(at + "term(" + fields + ", " + a + ", " + b + ")",
                    () -> index.term(fields, a, b), () -> model.term(fields, a, b));
        } else if (kind < 5) {
            same(at + "begins(" + fields + ", " + a + ", " + b + ", " + n + ")",
                    () -> index.begins(fields, a, b, n), () -> model.begins(fields, a, b, n));
        } else if (kind < 6) {
            int far = random.nextInt(4) == 0 ? near(0, 102) : n;
            same(at + "follow(" + a + ", " + b + ", " + far + ")",
                    () -> index.follow(a, b, far), () -> model.follow(a, b, far));
        } else if (kind < 9) {
            int how = near(-1, 5);
            same(at + "join(" + how + ")", () -> index.join(how), () -> model.join(how));
        } else {
            same(at + "drop", index::drop, model::drop);
        }
    }

    private void ask(String at) {
        int k = near(-1, random.nextBoolean() ? 4 : model.count(6) + 2);
        int what = near(-1, 9);
        switch (random.nextInt(5)) {
            case 0:
                same(at + "hit(" + k + ", " + what % 4 + ")",
                        () -> index.hit(k, what % 4), () -> model.hit(k, what % 4));
                break;
            case 1:
                same(at + "documents", index::documents, model::documents);
                break;
            case 2:
                same(at + "best(" + k + ")", () -> index.best(k), () -> model.best(k));
                break;
            case 3:
                same(at + "segment(" + k + ", " + what % 5 + ")",
                        () -> index.segment(k, what % 5), () -> model.segment(k, what % 5));
                break;
            default:
                same(at + "count(" + what + ")", () -> index.count(what), () -> model.count(what));
                break;
        }
    }

    private static void same(String call, Check.Call got, Check.Call want) {
        Check.compare(call, Check.answerOf(got), Check.answerOf(want));
    }
}
