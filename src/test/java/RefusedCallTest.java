import java.util.ArrayList;
import java.util.List;
import java.util.function.ToLongFunction;

/**
 * Refused calls, and calls that only ask: each is made on one of two drawers that are alike, and all that can be asked
 * of both must be the same then. With the counts of promise 21, and far-out arguments for every call.
 */
public final class RefusedCallTest {
    private static final String PAIR = "rule 0:left any right any;";
    private static final int[] FAR = {Check.LEAST, Check.LEAST + 1, -1000, -1, 0, 1, 5, 9, 10, 12, 16, 40, 60, 61, 100,
        101, 1200, Check.GREATEST - 1, Check.GREATEST};

    private RefusedCallTest() {
    }

    private static void due(String what, long got, long want) {
        Check.due(what, got, want);
    }

    public static void main(String[] args) {
        countsOfNothing();
        countsAtTheFullest();
        countOfNoSuchWhat();
        countsOfThoseThereAndAway();
        refusedCalls();
        refusedWhenFull();
        askingChangesNothing();
        farArgumentsThrowNothing();
        runOf512Calls();
        Check.end();
    }

    private static void countsOfNothing() {
        Check.says(21, "What 0: SENTENCES that came");
        RowDrawer x = new RowDrawer();
        for (int what = 0; what <= 8; what++) {
            due("count " + what, x.count(what), 0);
        }
    }

    /** 40 sentences, 12 rules, 10 bars, 6 chains, 60 marks, 1,200 signs and 16 words told. */
    private static RowDrawer full() {
        RowDrawer x = Check.withText(PAIR.repeat(12) + "bar 1;".repeat(10) + "chain 0=0 0;".repeat(6) + "single 0;");
        Check.sayAll(x, 1, 9);
        for (int s = 1; s < 40; s++) {
            Check.say(x, 2);
        }
        for (int n = 0; n < 60; n++) {
            int left = n / 8;
            x.mark(0, left, n % 8 < left ? n % 8 : n % 8 + 1, 0, n % 3 > 0);
        }
        x.learn(0);
        for (int n = 0; n < 50; n++) {
            Check.feed(x, "bar 1;".repeat(4));
        }
        for (int n = 0; n < 16; n++) {
            x.word(3);
        }
        return x;
    }

    private static void countsAtTheFullest() {
        Check.says(21, "What 0: SENTENCES that came, 1: those that are there, 2: RULES, 3: bars, 4: chains, 5: MARKS");
        RowDrawer x = full();
        int[] want = {40, 40, 12, 10, 6, 60, 1200, 16, 96};
        for (int what = 0; what <= 8; what++) {
            due("count " + what, x.count(what), want[what]);
        }
    }

    private static void countOfNoSuchWhat() {
        Check.says(21, "NONE for another what.");
        RowDrawer x = full();
        int[] none = {-1, 9, 10, Check.LEAST, Check.GREATEST};
        for (int what : none) {
            due("count " + what, x.count(what), -1);
            due("count of a new one " + what, new RowDrawer().count(what), -1);
        }
    }

    private static void countsOfThoseThereAndAway() {
        Check.says(21, "1: those that are there");
        RowDrawer x = full();
        for (int s = 0; s < 40; s++) {
            x.take(s);
            due("there without " + s, x.count(1), 39 - s);
            due("came", x.count(0), 40);
        }
        due("barred ones of none", x.count(8), 0);
        due("marks stay", x.count(5), 60);
        due("words told stay", x.count(7), 16);
    }

    /** Something of everything, so that whatever a call changed would show. */
    private static RowDrawer ordinary() {
        RowDrawer x = Check.withText("rule 0:left any right any;rule 1:left sort 1 some right any;"
            + "rule 0:right word 3 some left word 1;bar 9;chain 2=0 1;single 0;single 2;");
        x.sort(1, 1);
        x.sort(100, 9);
        x.join(5, 6);
        x.join(6, 7);
        Check.say(x, 1, 2, 3, 100);
        Check.say(x, 1, 5, 1);
        Check.say(x, 3, 9, 1);
        Check.say(x, 4, 4);
        x.take(3);
        x.mark(0, 0, 1, 0, true);
        x.mark(1, 0, 1, 0, true);
        x.mark(2, 2, 0, 0, false);
        x.mark(0, 0, 3, 1, true);
        x.learn(0);
        x.word(1);
        x.word(6);
        Check.feed(x, "rule 3:left any right any;bar 6;");
        return x;
    }

    private static void add(StringBuilder all, long answer) {
        all.append(answer).append(' ');
    }

    /** All that can be asked, then what the tape and the told words come to; some 300 calls. */
    private static String askAll(RowDrawer x) {
        StringBuilder all = new StringBuilder();
        askOnce(x, all);
        add(all, x.sentence());
        add(all, x.finds());
        add(all, x.text());
        for (int what = 0; what <= 8; what++) {
            add(all, x.count(what));
        }
        add(all, x.finds());
        add(all, x.rows(3));
        add(all, x.best(0));
        for (int r = 0; r < 3; r++) {
            add(all, x.learn(r));
            add(all, x.learnt(0, 0));
            add(all, x.catches(true));
        }
        return all.toString();
    }

    private static void askOnce(RowDrawer x, StringBuilder all) {
        for (int what = 0; what <= 8; what++) {
            add(all, x.count(what));
        }
        int finds = x.finds();
        add(all, finds);
        for (int i = 0; i <= Math.min(finds, 8); i++) {
            for (int what = 0; what < 6; what++) {
                add(all, x.find(i, what));
            }
        }
        for (int r = 0; r < 10; r++) {
            add(all, x.rows(r));
            add(all, x.quarrel(r, 0));
        }
        for (int i = 0; i < 5; i++) {
            add(all, x.row(0, i, 0));
            add(all, x.row(0, i, 1));
            add(all, x.row(2, i, 0));
        }
        for (int k = 0; k < Math.min(x.count(2), 3); k++) {
            for (int what = 0; what < 6; what++) {
                add(all, x.rule(k, what));
            }
        }
        for (int m = 0; m <= 60; m += 20) {
            add(all, x.best(m));
        }
        for (int i = 0; i < 4; i++) {
            for (int what = 0; what < 3; what++) {
                add(all, x.learnt(i, what));
            }
        }
        add(all, x.catches(true));
        add(all, x.catches(false));
        for (int w = 1; w <= 8; w++) {
            add(all, x.named(w));
        }
        add(all, x.named(100));
    }

    private record Call(int promise, String told, long want, ToLongFunction<RowDrawer> call) {
    }

    private static long bit(boolean answer) {
        return answer ? 1 : 0;
    }

    private static void dueUnchanged(String when, RowDrawer x, RowDrawer twin, Call call) {
        Check.says(call.promise(), "a refused call changes nothing");
        due(when + call.told(), call.call().applyAsLong(x), call.want());
        due(when + call.told() + " leaves all as it was", bit(askAll(x).equals(askAll(twin))), 1);
    }

    private static void refusedCalls() {
        List<Call> calls = new ArrayList<>();
        calls.add(new Call(2, "sort(0, 1)", 0, x -> bit(x.sort(0, 1))));
        calls.add(new Call(2, "sort(101, 1)", 0, x -> bit(x.sort(101, 1))));
        calls.add(new Call(2, "sort(1, 10)", 0, x -> bit(x.sort(1, 10))));
        calls.add(new Call(2, "sort(1, -1)", 0, x -> bit(x.sort(1, -1))));
        calls.add(new Call(3, "join(0, 1)", 0, x -> bit(x.join(0, 1))));
        calls.add(new Call(3, "join(1, 101)", 0, x -> bit(x.join(1, 101))));
        calls.add(new Call(3, "join(5, 0)", 0, x -> bit(x.join(5, 0))));
        calls.add(new Call(3, "join(7, 5)", 0, x -> bit(x.join(7, 5))));
        calls.add(new Call(3, "join(6, 5)", 0, x -> bit(x.join(6, 5))));
        calls.add(new Call(4, "word(0)", -1, x -> x.word(0)));
        calls.add(new Call(4, "word(101)", -1, x -> x.word(101)));
        calls.add(new Call(6, "take(-1)", 0, x -> bit(x.take(-1))));
        calls.add(new Call(6, "take(3), taken already", 0, x -> bit(x.take(3))));
        calls.add(new Call(6, "take(4)", 0, x -> bit(x.take(4))));
        calls.add(new Call(7, "feed of no signs", 32, x -> x.feed(0, -1L, 0x7f1f090b0d808182L)));
        calls.add(new Call(14, "mark of sentence 3, taken", -1, x -> x.mark(3, 0, 1, 0, true)));
        calls.add(new Call(14, "mark of sentence 4", -1, x -> x.mark(4, 0, 1, 0, true)));
        calls.add(new Call(14, "mark of one place", -1, x -> x.mark(0, 1, 1, 0, true)));
        calls.add(new Call(14, "mark of place 4", -1, x -> x.mark(0, 1, 4, 0, true)));
        calls.add(new Call(14, "mark of place -1", -1, x -> x.mark(0, -1, 0, 0, true)));
        calls.add(new Call(14, "mark of R 10", -1, x -> x.mark(0, 0, 1, 10, false)));
        calls.add(new Call(17, "learn(-1)", -1, x -> x.learn(-1)));
        calls.add(new Call(17, "learn(10)", -1, x -> x.learn(10)));
        calls.add(new Call(17, "learn(2), without marks", -1, x -> x.learn(2)));
        for (Call call : calls) {
            dueUnchanged("", ordinary(), ordinary(), call);
        }
    }

    private static void refusedWhenFull() {
        List<Call> calls = new ArrayList<>();
        calls.add(new Call(4, "word(1)", -1, x -> x.word(1)));
        calls.add(new Call(5, "sentence()", -1, x -> x.sentence()));
        calls.add(new Call(7, "feed", 1200, x -> Check.feed(x, "rule 0:")));
        calls.add(new Call(14, "mark of another pair", -1, x -> x.mark(0, 8, 7, 0, true)));
        calls.add(new Call(14, "mark of another R", -1, x -> x.mark(0, 0, 1, 1, true)));
        calls.add(new Call(14, "mark that is there, told again", 60, x -> x.mark(0, 0, 1, 0, false)));
        for (Call call : calls) {
            dueUnchanged("full: ", full(), full(), call);
        }
    }

    private static void askingChangesNothing() {
        Check.says(21, "What 0: SENTENCES that came");
        RowDrawer x = ordinary();
        StringBuilder first = new StringBuilder();
        StringBuilder second = new StringBuilder();
        askOnce(x, first);
        askOnce(x, second);
        due("asked twice, the same", bit(first.toString().equals(second.toString())), 1);
    }

    /** Each far argument for each parameter; what is thrown by another call than rule ends the test. */
    private static void farArgumentsThrowNothing() {
        Check.says(15, "NoSuchElementException: none such.");
        for (int a : FAR) {
            for (int b : FAR) {
                RowDrawer x = ordinary();
                askFar(x, a, b);
                x.sort(a, b);
                x.join(a, b);
                x.mark(a, b, 0, 0, true);
                x.mark(0, a, b, 0, true);
                x.mark(0, b, 1, a, false);
                x.take(a);
                x.word(b);
                x.feed(a, b, (long) a << 32 | b);
                x.learn(a);
                x.sentence();
                askFar(x, b, a);
                x.text();
                due("the drawer lives on, " + a + " " + b, bit(x.count(6) == 0), 1);
            }
        }
    }

    private static void askFar(RowDrawer x, int a, int b) {
        x.find(a, b);
        x.rows(a);
        x.row(a, b, 0);
        x.row(0, a, b);
        x.quarrel(a, b);
        x.best(a);
        x.learnt(a, b);
        x.named(a);
        x.count(a);
        if (a < 0 || a >= x.count(2) || b < 0 || b > 5) {
            Check.dueNoSuchRule(x, a, b);
        } else {
            x.rule(a, b);
        }
    }

    private static void runOf512Calls() {
        Check.says(21, "An object is used for at most 512 calls after it has been made");
        RowDrawer x = new RowDrawer();
        int calls = 0;
        for (int s = 0; s < 30; s++) {
            for (int n = 1; n <= 16; n++) {
                due("word", x.word(n), n);
                calls++;
            }
            due("sentence", x.sentence(), s);
            calls++;
        }
        due("one more", x.count(0), 30);
        due("the 512th", x.count(1), 30);
        due("calls", calls + 2, 512);
    }
}
