import java.util.ArrayList;
import java.util.HashSet;
import java.util.List;
import java.util.Set;
import java.util.TreeSet;

/**
 * The document's words in the plainest form, held otherwise than in SegmentIndex: real lists of
 * documents for the buffer and every segment, and real sets.
 */
final class Model {
    private record Token(int field, int place, int a, int b) {
    }

    private record Hit(int document, int field, int place) implements Comparable<Hit> {
        @Override
        public int compareTo(Hit other) {
            if (document != other.document) {
                return Integer.compare(document, other.document);
            }
            return field != other.field
                    ? Integer.compare(field, other.field) : Integer.compare(place, other.place);
        }
    }

    private record Document(int number, Set<Token> tokens) {
    }

    private record Segment(int level, List<Document> documents) {
    }

    private Set<Token> hand = new HashSet<>();
    private List<Document> buffer = new ArrayList<>();
    private final List<Segment> segments = new ArrayList<>();
    private final Set<Integer> taken = new HashSet<>();
    private final List<TreeSet<Hit>> pile = new ArrayList<>();
    private int came = 0;

    int token(int field, int place, int a, int b) {
        if (field < 0 || field > 3 || place < 0 || place > 4095) {
            throw new IllegalArgumentException();
        }
        Token token = new Token(field, place, a, b);
        if (hand.size() == 120 && !hand.contains(token)) {
            throw new IllegalStateException();
        }
        hand.add(token);
        return hand.size();
    }

    int add() {
        if (came == 600) {
            throw new IllegalStateException();
        }
        buffer.add(new Document(came, hand));
        hand = new HashSet<>();
        came++;
        if (buffer.size() == 12) {
            flush();
        }
        return came - 1;
    }

    int take(int document) {
        if (buffer.removeIf(d -> d.number() == document)) {
            return 0;
        }
        for (Segment s : segments) {
            for (Document d : s.documents()) {
                if (d.number() == document && taken.add(document)) {
                    return 0;
                }
            }
        }
        throw new IndexOutOfBoundsException();
    }

    int flush() {
        if (!buffer.isEmpty()) {
            segments.add(new Segment(0, buffer));
            buffer = new ArrayList<>();
        }
        while (segments.size() >= 4) {
            List<Segment> last = segments.subList(segments.size() - 4, segments.size());
            int level = last.get(0).level();
            if (!last.stream().allMatch(s -> s.level() == level)) {
                break;
            }
            List<Document> left = leftIn(last);
            last.clear();
            if (!left.isEmpty()) {
                segments.add(new Segment(level + 1, left));
            }
        }
        return segments.size();
    }

    private List<Document> leftIn(List<Segment> some) {
        List<Document> left = new ArrayList<>();
        for (Segment s : some) {
            for (Document d : s.documents()) {
                if (!taken.remove(d.number())) {
                    left.add(d);
                }
            }
        }
        return left;
    }

    int pack() {
        int level = segments.stream().mapToInt(Segment::level).max().orElse(0);
        List<Document> left = leftIn(segments);
        left.addAll(buffer);
        buffer = new ArrayList<>();
        segments.clear();
        if (!left.isEmpty()) {
            segments.add(new Segment(level, left));
        }
        return left.size();
    }

    int term(int fields, int a, int b) {
        if (pile.size() == 8) {
            throw new IllegalStateException();
        }
        pile.add(found(fields, a, b, 8));
        return top().size();
    }

    int begins(int fields, int a, int b, int n) {
        if (pile.size() == 8) {
            throw new IllegalStateException();
        }
        if (n < 0 || n > 8) {
            throw new IllegalArgumentException();
        }
        pile.add(found(fields, a, b, n));
        return top().size();
    }

    private TreeSet<Hit> found(int fields, int a, int b, int n) {
        List<Document> there = new ArrayList<>(buffer);
        segments.forEach(s -> there.addAll(s.documents()));
        there.removeIf(d -> taken.contains(d.number()));
        TreeSet<Hit> found = new TreeSet<>();
        for (Document d : there) {
            for (Token t : d.tokens()) {
                if ((fields & 1 << t.field()) != 0 && bytes(t.a(), t.b()).startsWith(bytes(a, b).substring(0, 2 * n))) {
                    found.add(new Hit(d.number(), t.field(), t.place()));
                }
            }
        }
        return found;
    }

    private static String bytes(int a, int b) {
        return String.format("%08x%08x", a, b);
    }

    int follow(int a, int b, int n) {
        if (pile.isEmpty()) {
            throw new IllegalStateException();
        }
        if (n < 1 || n > 100) {
            throw new IllegalArgumentException();
        }
        TreeSet<Hit> before = pile.remove(pile.size() - 1);
        TreeSet<Hit> behind = found(15, a, b, 8);
        behind.removeIf(h -> !before.contains(new Hit(h.document(), h.field(), h.place() - n)));
        pile.add(behind);
        return behind.size();
    }

    int join(int how) {
        if (pile.size() < 2) {
            throw new IllegalStateException();
        }
        if (how < 0 || how > 3) {
            throw new IllegalArgumentException();
        }
        TreeSet<Hit> y = pile.remove(pile.size() - 1);
        TreeSet<Hit> x = pile.remove(pile.size() - 1);
        TreeSet<Hit> made = new TreeSet<>();
        if (how < 2) {
            made.addAll(x);
            made.addAll(y);
        }
        if (how == 0) {
            made.removeIf(h -> !numbers(x).contains(h.document()) || !numbers(y).contains(h.document()));
        }
        if (how == 2) {
            made.addAll(x);
            made.removeIf(h -> numbers(y).contains(h.document()));
        }
        if (how == 3) {
            made.addAll(y);
            made.removeIf(h -> x.stream().noneMatch(o -> o.document() == h.document()
                    && o.field() == h.field() && Math.abs(o.place() - h.place()) <= 10));
        }
        pile.add(made);
        return made.size();
    }

    private static Set<Integer> numbers(TreeSet<Hit> hits) {
        Set<Integer> numbers = new HashSet<>();
        hits.forEach(h -> numbers.add(h.document()));
        return numbers;
    }

    int drop() {
        if (pile.isEmpty()) {
            throw new IllegalStateException();
        }
        pile.remove(pile.size() - 1);
        return pile.size();
    }

    private TreeSet<Hit> top() {
        return pile.isEmpty() ? new TreeSet<>() : pile.get(pile.size() - 1);
    }

    int hit(int k, int what) {
        if (k < 0 || k >= top().size() || what < 0 || what > 2) {
            return -1;
        }
        Hit hit = new ArrayList<>(top()).get(k);
        return what == 0 ? hit.document() : what == 1 ? hit.field() : hit.place();
    }

    int documents() {
        return numbers(top()).size();
    }

    int best(int k) {
        List<Integer> order = new ArrayList<>(numbers(top()));
        int[] hits = new int[600];
        top().forEach(h -> hits[h.document()]++);
        order.sort((p, q) -> hits[p] != hits[q] ? hits[q] - hits[p] : p - q);
        return k < 0 || k >= order.size() ? -1 : order.get(k);
    }

    int segment(int segment, int what) {
        if (segment < 0 || segment >= segments.size()) {
            return -1;
        }
        Segment s = segments.get(segment);
        Set<String> terms = new HashSet<>();
        int tokens = 0;
        for (Document d : s.documents()) {
            tokens += d.tokens().size();
            d.tokens().forEach(t -> terms.add(bytes(t.a(), t.b())));
        }
        int[] answers = {s.level(), s.documents().size(), terms.size(), tokens};
        return what < 0 || what > 3 ? -1 : answers[what];
    }

    int count(int what) {
        int kept = segments.stream().mapToInt(s -> s.documents().size()).sum();
        int[] answers = {buffer.size() + kept - taken.size(), came, buffer.size(), hand.size(),
            segments.size(), pile.size(), top().size(), taken.size()};
        return what < 0 || what > 7 ? -1 : answers[what];
    }
}
