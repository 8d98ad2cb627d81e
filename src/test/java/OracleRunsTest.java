import java.util.NoSuchElementException;
import java.util.Random;

/** Runs of up to 512 calls, drawn from fixed seeds, answered by the class and by the oracle. */
public final class OracleRunsTest {
    private static final int RUNS = 1500;
    private static final int[] EDGES = {-1, 0, 1, 9, 10, 100, 101, Integer.MIN_VALUE, Integer.MAX_VALUE};

    private final Random random;
    private final RowDrawer x = new RowDrawer();
    private final Oracle oracle = new Oracle();
    private final String run;
    private final int vocabulary;
    private int calls = 0;

    private OracleRunsTest(int seed) {
        random = new Random(seed);
        run = "run " + seed + " ";
        vocabulary = random.nextInt(4) == 0 ? 100 : 2 + random.nextInt(8);
    }

    public static void main(String[] args) {
        int runs = args.length > 0 ? Integer.parseInt(args[0]) : RUNS;
        for (int seed = 0; seed < runs; seed++) {
            new OracleRunsTest(seed).play();
        }
        Check.end();
    }

    private void play() {
        boolean beginsWithText = random.nextBoolean();
        if (beginsWithText) {
            text();
        }
        // A step of a long text takes some 70 calls, and the 512th is the last that is promised.
        while (calls < 430) {
            step();
        }
    }

    private void due(String call, long got, long want) {
        calls++;
        Check.due(run + "call " + calls + " " + call, got, want);
    }

    private void due(String call, boolean got, boolean want) {
        due(call, got ? 1 : 0, want ? 1 : 0);
    }

    private int pick(int low, int high) {
        return random.nextInt(40) == 0 ? EDGES[random.nextInt(EDGES.length)] : low + random.nextInt(high - low + 1);
    }

    private void step() {
        switch (random.nextInt(16)) {
            case 0, 1, 2, 3 -> tellSentence();
            case 4 -> setWord();
            case 5 -> {
                if (random.nextInt(3) == 0) {
                    text();
                }
            }
            case 6, 7, 8 -> putMark();
            case 9 -> {
                if (random.nextInt(4) == 0) {
                    int s = pick(0, 12);
                    due("take " + s, x.take(s), oracle.take(s));
                }
            }
            case 10 -> askLesson();
            case 11 -> {
                int what = pick(0, 8);
                due("count " + what, x.count(what), oracle.count(what));
            }
            case 12 -> {
                int m = pick(0, 4);
                due("best " + m, x.best(m), oracle.best(m));
            }
            case 13 -> askRule();
            case 14 -> askFind();
            default -> askRow();
        }
    }

    private void tellSentence() {
        int length = random.nextInt(6) == 0 ? random.nextInt(18) : random.nextInt(8);
        for (int n = 0; n < length; n++) {
            int w = pick(1, vocabulary);
            due("word " + w, x.word(w), oracle.word(w));
        }
        due("sentence", x.sentence(), oracle.sentence());
    }

    private void setWord() {
        int word = pick(1, vocabulary);
        if (random.nextBoolean()) {
            int s = pick(0, 3);
            due("sort " + word + " " + s, x.sort(word, s), oracle.sort(word, s));
        } else {
            int to = random.nextInt(4) == 0 ? word : pick(1, vocabulary);
            due("join " + word + " " + to, x.join(word, to), oracle.join(word, to));
            due("named " + word, x.named(word), oracle.named(word));
        }
    }

    private void putMark() {
        int found = oracle.finds();
        boolean ofFind = found > 0 && random.nextInt(3) > 0;
        int i = ofFind ? random.nextInt(found) : 0;
        int s = ofFind ? oracle.find(i, 0) : pick(0, 10);
        int left = ofFind ? oracle.find(i, 2) : pick(0, 5);
        int right = ofFind ? oracle.find(i, 3) : pick(0, 5);
        int r = ofFind && random.nextInt(5) > 0 ? oracle.find(i, 5) : pick(0, 2);
        boolean isRight = random.nextInt(3) > 0;
        due("mark " + s + " " + left + " " + right + " " + r, x.mark(s, left, right, r, isRight),
            oracle.mark(s, left, right, r, isRight));
    }

    private void askLesson() {
        int r = pick(0, 2);
        if (random.nextBoolean()) {
            due("learn " + r, x.learn(r), oracle.learn(r));
        }
        for (int n = 0; n < 3; n++) {
            int i = pick(0, 4);
            int what = pick(0, 2);
            due("learnt " + i + " " + what, x.learnt(i, what), oracle.learnt(i, what));
        }
        due("catches right", x.catches(true), oracle.catches(true));
        due("catches wrong", x.catches(false), oracle.catches(false));
    }

    private void askRule() {
        int k = pick(0, Math.max(0, oracle.count(2)));
        int what = pick(0, 5);
        long got;
        long want;
        try {
            got = x.rule(k, what);
        } catch (NoSuchElementException e) {
            got = Long.MIN_VALUE;
        }
        try {
            want = oracle.rule(k, what);
        } catch (NoSuchElementException e) {
            want = Long.MIN_VALUE;
        }
        due("rule " + k + " " + what, got, want);
    }

    private void askFind() {
        int found = oracle.finds();
        if (random.nextBoolean()) {
            due("finds", x.finds(), found);
        }
        for (int n = 0; n < 3; n++) {
            int i = pick(0, found);
            int what = pick(0, 5);
            due("find " + i + " " + what, x.find(i, what), oracle.find(i, what));
        }
    }

    private void askRow() {
        int r = pick(0, 3);
        int rows = oracle.rows(r);
        due("rows " + r, x.rows(r), rows);
        int i = pick(0, Math.max(rows, 0));
        int what = pick(0, 1);
        due("row " + r + " " + i + " " + what, x.row(r, i, what), oracle.row(r, i, what));
        int q = pick(0, 2);
        due("quarrel " + r + " " + q, x.quarrel(r, q), oracle.quarrel(r, q));
    }

    private void text() {
        String text = Texts.draw(random, vocabulary);
        for (int i = 0; i < text.length(); i += 24) {
            long a = Check.pack(text, i);
            long b = Check.pack(text, i + 8);
            long c = Check.pack(text, i + 16);
            due("feed", x.feed(a, b, c), oracle.feed(a, b, c));
        }
        due("text '" + text + "'", x.text(), oracle.text());
    }
}
