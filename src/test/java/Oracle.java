import java.util.ArrayList;
import java.util.Arrays;
import java.util.HashMap;
import java.util.List;
import java.util.Map;
import java.util.NoSuchElementException;
import java.util.TreeSet;
import java.util.regex.Matcher;
import java.util.regex.Pattern;

/** The document said again in the slowest way: nothing is kept that could be worked out anew. */
final class Oracle {
    private record Token(String text, int place) {
    }

    private record Item(String role, String kind, int number) {
    }

    private record Rule(int r, List<Item> items) {
    }

    private record Book(List<Rule> rules, List<Integer> bars, List<int[]> chains, TreeSet<Integer> singles) {
    }

    private record Find(int sentence, int rule, int left, int right) implements Comparable<Find> {
        @Override
        public int compareTo(Find o) {
            return Arrays.compare(new int[] {sentence, rule, left, right},
                new int[] {o.sentence, o.rule, o.left, o.right});
        }
    }

    private record Mark(int sentence, int left, int right, int r, boolean isRight) {
    }

    private record Spec(int kind, int number, int role) {
    }

    private final Map<Integer, Integer> sorts = new HashMap<>();
    private final Map<Integer, Integer> joins = new HashMap<>();
    private final List<List<Integer>> sentences = new ArrayList<>();
    private final TreeSet<Integer> away = new TreeSet<>();
    private List<Integer> told = new ArrayList<>();
    private final StringBuilder tape = new StringBuilder();
    private Book book = emptyBook();
    private final List<Mark> marks = new ArrayList<>();
    private List<Spec> learnt = null;
    private int learntR;

    private static Book emptyBook() {
        return new Book(new ArrayList<>(), new ArrayList<>(), new ArrayList<>(), new TreeSet<>());
    }

    private static boolean in(int low, int n, int high) {
        return low <= n && n <= high;
    }

    boolean sort(int word, int s) {
        if (!in(1, word, 100) || !in(0, s, 9)) {
            return false;
        }
        sorts.put(word, s);
        return true;
    }

    boolean join(int word, int to) {
        if (!in(1, word, 100) || !in(1, to, 100)) {
            return false;
        }
        if (word == to) {
            joins.remove(word);
            return true;
        }
        for (Integer at = to; at != null; at = joins.get(at)) {
            if (at == word) {
                return false;
            }
        }
        joins.put(word, to);
        return true;
    }

    int named(int word) {
        if (!in(1, word, 100)) {
            return -1;
        }
        return joins.containsKey(word) ? named(joins.get(word)) : word;
    }

    int word(int w) {
        if (!in(1, w, 100) || told.size() == 16) {
            return -1;
        }
        told.add(w);
        return told.size();
    }

    int sentence() {
        if (told.isEmpty() || sentences.size() == 40) {
            return -1;
        }
        sentences.add(told);
        told = new ArrayList<>();
        return sentences.size() - 1;
    }

    private boolean there(int s) {
        return in(0, s, sentences.size() - 1) && !away.contains(s);
    }

    boolean take(int s) {
        return there(s) && away.add(s);
    }

    int feed(long a, long b, long c) {
        for (long eight : new long[] {a, b, c}) {
            for (byte sign : java.nio.ByteBuffer.allocate(8).putLong(eight).array()) {
                if ((sign == 10 || sign >= 32 && sign < 127) && tape.length() < 1200) {
                    tape.append((char) sign);
                }
            }
        }
        return tape.length();
    }

    private static final Pattern TOKEN = Pattern.compile("[a-z]+|[0-9]+|[^a-z0-9 \n]");

    int text() {
        List<Token> tokens = new ArrayList<>();
        Matcher matcher = TOKEN.matcher(tape);
        while (matcher.find()) {
            tokens.add(new Token(matcher.group(), matcher.start()));
        }
        tokens.add(new Token("", tape.length()));
        tape.setLength(0);
        Book fresh = emptyBook();
        int fault = readAll(tokens, fresh);
        if (fault == 0) {
            book = fresh;
        }
        return fault;
    }

    /** Walks the tokens with a word for what is due next. */
    private static int readAll(List<Token> tokens, Book fresh) {
        String due = "statement";
        List<Integer> numbers = new ArrayList<>();
        String head = "";
        List<Item> items = new ArrayList<>();
        String role = "";
        String kind = "";
        for (Token token : tokens) {
            String t = token.text();
            int bad = 1 + 16 * token.place();
            boolean isNumber = t.matches("[0-9]{1,4}");
            int n = isNumber ? Integer.parseInt(t) : -1;
            switch (due) {
                case "statement" -> {
                    if (t.isEmpty()) {
                        return 0;
                    }
                    if (!List.of("rule", "bar", "chain", "single").contains(t)) {
                        return bad;
                    }
                    if (t.equals("rule") && fresh.rules().size() == 12 || t.equals("bar") && fresh.bars().size() == 10
                        || t.equals("chain") && fresh.chains().size() == 6) {
                        return bad + 4;
                    }
                    head = t;
                    numbers = new ArrayList<>();
                    items = new ArrayList<>();
                    due = "number";
                }
                case "number" -> {
                    if (!isNumber) {
                        return bad;
                    }
                    if (head.equals("bar") ? !in(1, n, 100) : !in(0, n, 9)) {
                        return bad + 3;
                    }
                    numbers.add(n);
                    due = head.equals("rule") ? ":" : !head.equals("chain") ? ";" : numbers.size() == 1 ? "="
                        : numbers.size() == 2 ? "number" : ";";
                }
                case ":", "=" -> {
                    if (!t.equals(due)) {
                        return bad;
                    }
                    due = due.equals(":") ? "item" : "number";
                }
                case ";" -> {
                    if (!t.equals(";")) {
                        return bad;
                    }
                    if (head.equals("bar")) {
                        fresh.bars().add(numbers.get(0));
                    } else if (head.equals("single")) {
                        fresh.singles().add(numbers.get(0));
                    } else {
                        fresh.chains().add(new int[] {numbers.get(0), numbers.get(1), numbers.get(2)});
                    }
                    due = "statement";
                }
                case "item" -> {
                    List<String> roles = items.stream().map(Item::role).toList();
                    if (t.equals(";")) {
                        if (!roles.contains("left") || !roles.contains("right")) {
                            return bad;
                        }
                        fresh.rules().add(new Rule(numbers.get(0), items));
                        due = "statement";
                        break;
                    }
                    if (!List.of("word", "sort", "any", "some", "left", "right").contains(t) || roles.contains(t)) {
                        return bad;
                    }
                    if (items.size() == 10) {
                        return bad + 4;
                    }
                    role = "";
                    if (t.equals("left") || t.equals("right")) {
                        role = t;
                        due = "spec";
                    } else if (t.equals("any") || t.equals("some")) {
                        items.add(new Item("", t, 0));
                    } else {
                        kind = t;
                        due = "speced";
                    }
                }
                case "spec" -> {
                    if (t.equals("any")) {
                        items.add(new Item(role, t, 0));
                        due = "item";
                    } else if (t.equals("word") || t.equals("sort")) {
                        kind = t;
                        due = "speced";
                    } else {
                        return bad;
                    }
                }
                default -> {
                    if (!isNumber) {
                        return bad;
                    }
                    if (kind.equals("word") ? !in(1, n, 100) : !in(0, n, 9)) {
                        return bad + 3;
                    }
                    items.add(new Item(role, kind, n));
                    due = "item";
                }
            }
        }
        throw new IllegalStateException("the end is always judged");
    }

    private int sortOf(int word) {
        return sorts.getOrDefault(word, 0);
    }

    private void match(Find sofar, List<Item> items, int at, TreeSet<Find> into) {
        List<Integer> words = sentences.get(sofar.sentence());
        if (items.isEmpty()) {
            into.add(sofar);
            return;
        }
        Item item = items.get(0);
        List<Item> rest = items.subList(1, items.size());
        if (item.kind().equals("some")) {
            for (int n = 0; n <= 3 && at + n <= words.size(); n++) {
                match(sofar, rest, at + n, into);
            }
            return;
        }
        if (at >= words.size()) {
            return;
        }
        int word = words.get(at);
        if (item.kind().equals("word") && word != item.number()
            || item.kind().equals("sort") && sortOf(word) != item.number()) {
            return;
        }
        match(new Find(sofar.sentence(), sofar.rule(), item.role().equals("left") ? at : sofar.left(),
            item.role().equals("right") ? at : sofar.right()), rest, at + 1, into);
    }

    private List<Find> allFinds() {
        TreeSet<Find> all = new TreeSet<>();
        for (int s = 0; s < sentences.size(); s++) {
            for (int k = 0; k < book.rules().size() && there(s); k++) {
                for (int place = 0; place < sentences.get(s).size(); place++) {
                    match(new Find(s, k, -1, -1), book.rules().get(k).items(), place, all);
                }
            }
        }
        return new ArrayList<>(all);
    }

    private boolean barred(Find find) {
        return sentences.get(find.sentence()).stream().anyMatch(book.bars()::contains);
    }

    int finds() {
        return allFinds().size();
    }

    int find(int i, int what) {
        List<Find> all = allFinds();
        if (!in(0, i, all.size() - 1) || !in(0, what, 5)) {
            return -1;
        }
        Find f = all.get(i);
        return new int[] {f.sentence(), f.rule(), f.left(), f.right(), barred(f) ? 1 : 0,
            book.rules().get(f.rule()).r()}[what];
    }

    /** A row as R * 1,000,000 + first * 1000 + second. */
    private TreeSet<Integer> allRows() {
        TreeSet<Integer> all = new TreeSet<>();
        for (Find f : allFinds()) {
            if (!barred(f)) {
                List<Integer> words = sentences.get(f.sentence());
                all.add(book.rules().get(f.rule()).r() * 1_000_000 + named(words.get(f.left())) * 1000
                    + named(words.get(f.right())));
            }
        }
        int before = -1;
        while (before != all.size()) {
            before = all.size();
            for (int[] chain : book.chains()) {
                for (int ab : new ArrayList<>(rowsOf(all, chain[1]))) {
                    for (int bc : new ArrayList<>(rowsOf(all, chain[2]))) {
                        if (ab % 1000 == bc / 1000) {
                            all.add(chain[0] * 1_000_000 + ab / 1000 * 1000 + bc % 1000);
                        }
                    }
                }
            }
        }
        return all;
    }

    private static List<Integer> rowsOf(TreeSet<Integer> all, int r) {
        List<Integer> own = new ArrayList<>();
        for (int row : all.subSet(r * 1_000_000, (r + 1) * 1_000_000)) {
            own.add(row - r * 1_000_000);
        }
        return own;
    }

    int rows(int r) {
        return in(0, r, 9) ? rowsOf(allRows(), r).size() : -1;
    }

    int row(int r, int i, int what) {
        if (!in(0, r, 9)) {
            return -1;
        }
        List<Integer> own = rowsOf(allRows(), r);
        if (!in(0, i, own.size() - 1) || !in(0, what, 1)) {
            return -1;
        }
        return what == 0 ? own.get(i) / 1000 : own.get(i) % 1000;
    }

    int quarrel(int r, int i) {
        if (!book.singles().contains(r)) {
            return -1;
        }
        TreeSet<Integer> seen = new TreeSet<>();
        TreeSet<Integer> twice = new TreeSet<>();
        for (int row : rowsOf(allRows(), r)) {
            if (!seen.add(row / 1000)) {
                twice.add(row / 1000);
            }
        }
        return in(0, i, twice.size() - 1) ? new ArrayList<>(twice).get(i) : -1;
    }

    int mark(int s, int left, int right, int r, boolean isRight) {
        if (!there(s) || !in(0, r, 9) || left == right) {
            return -1;
        }
        int last = sentences.get(s).size() - 1;
        if (!in(0, left, last) || !in(0, right, last)) {
            return -1;
        }
        Mark told = new Mark(s, left, right, r, isRight);
        for (int n = 0; n < marks.size(); n++) {
            if (marks.get(n).equals(told) || marks.get(n).equals(new Mark(s, left, right, r, !isRight))) {
                marks.set(n, told);
                return marks.size();
            }
        }
        if (marks.size() == 60) {
            return -1;
        }
        marks.add(told);
        return marks.size();
    }

    private TreeSet<Integer> caught(List<Find> all, int k, boolean isRight) {
        TreeSet<Integer> own = new TreeSet<>();
        for (int n = 0; n < marks.size(); n++) {
            Mark m = marks.get(n);
            if (m.r() == book.rules().get(k).r() && m.isRight() == isRight
                && all.contains(new Find(m.sentence(), k, m.left(), m.right()))) {
                own.add(n);
            }
        }
        return own;
    }

    int rule(int k, int what) {
        if (!in(0, k, book.rules().size() - 1) || !in(0, what, 5)) {
            throw new NoSuchElementException();
        }
        List<Find> all = allFinds();
        int right = caught(all, k, true).size();
        int wrong = caught(all, k, false).size();
        return new int[] {book.rules().get(k).r(), right, wrong, right + wrong == 0 ? -1 : right * 1000 / (right + wrong),
            book.rules().get(k).items().size(), (int) all.stream().filter(f -> f.rule() == k).count()}[what];
    }

    int best(int m) {
        if (!in(0, m, 60)) {
            return -1;
        }
        List<Find> all = allFinds();
        List<TreeSet<Integer>> rights = new ArrayList<>();
        List<TreeSet<Integer>> wrongs = new ArrayList<>();
        for (int k = 0; k < book.rules().size(); k++) {
            rights.add(caught(all, k, true));
            wrongs.add(caught(all, k, false));
        }
        int best = 0;
        int most = 0;
        for (int set = 0; set < 1 << book.rules().size(); set++) {
            TreeSet<Integer> right = new TreeSet<>();
            TreeSet<Integer> wrong = new TreeSet<>();
            for (int k = 0; k < book.rules().size(); k++) {
                if ((set >> k & 1) == 1) {
                    right.addAll(rights.get(k));
                    wrong.addAll(wrongs.get(k));
                }
            }
            boolean fewer = right.size() == most && Integer.bitCount(set) < Integer.bitCount(best);
            if (wrong.size() <= m && (right.size() > most || fewer)) {
                best = set;
                most = right.size();
            }
        }
        return best;
    }

    private List<Integer> span(Mark m) {
        return sentences.get(m.sentence()).subList(Math.min(m.left(), m.right()), Math.max(m.left(), m.right()) + 1);
    }

    int learn(int r) {
        List<Mark> own = new ArrayList<>(marks.stream()
            .filter(m -> m.r() == r && m.isRight() && there(m.sentence())).toList());
        if (!in(0, r, 9) || own.isEmpty()) {
            return -1;
        }
        Mark first = own.get(0);
        own.removeIf(m -> m.right() - m.left() != first.right() - first.left());
        learnt = new ArrayList<>();
        learntR = r;
        int size = span(first).size();
        for (int i = 0; i < size; i++) {
            TreeSet<Integer> words = new TreeSet<>();
            TreeSet<Integer> itsSorts = new TreeSet<>();
            for (Mark m : own) {
                words.add(span(m).get(i));
                itsSorts.add(sortOf(span(m).get(i)));
            }
            int role = i > 0 && i < size - 1 ? 0 : (i == 0) == (first.left() < first.right()) ? 1 : 2;
            learnt.add(words.size() == 1 ? new Spec(0, words.first(), role)
                : itsSorts.size() == 1 ? new Spec(1, itsSorts.first(), role) : new Spec(2, 0, role));
        }
        return size;
    }

    int learnt(int i, int what) {
        if (learnt == null || !in(0, i, learnt.size() - 1) || !in(0, what, 2)) {
            return -1;
        }
        Spec spec = learnt.get(i);
        return what == 0 ? spec.kind() : what == 1 ? spec.number() : spec.role();
    }

    int catches(boolean isRight) {
        if (learnt == null) {
            return -1;
        }
        int sum = 0;
        for (Mark m : marks) {
            boolean stands = m.r() == learntR && m.isRight() == isRight && there(m.sentence())
                && span(m).size() == learnt.size() && learnt.get(0).role() == (m.left() < m.right() ? 1 : 2);
            for (int i = 0; i < learnt.size() && stands; i++) {
                Spec spec = learnt.get(i);
                int word = span(m).get(i);
                stands = spec.kind() == 2 || spec.number() == (spec.kind() == 0 ? word : sortOf(word));
            }
            sum += stands ? 1 : 0;
        }
        return sum;
    }

    int count(int what) {
        return switch (what) {
            case 0 -> sentences.size();
            case 1 -> sentences.size() - away.size();
            case 2 -> book.rules().size();
            case 3 -> book.bars().size();
            case 4 -> book.chains().size();
            case 5 -> marks.size();
            case 6 -> tape.length();
            case 7 -> told.size();
            case 8 -> (int) allFinds().stream().filter(this::barred).count();
            default -> -1;
        };
    }
}
