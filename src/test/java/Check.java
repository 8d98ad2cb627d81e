import java.util.NoSuchElementException;

/** Counts answers that are not as due, and feeds whole texts to a drawer. */
final class Check {
    /** Arguments that are far out on both sides. */
    static final int LEAST = Integer.MIN_VALUE;
    static final int GREATEST = Integer.MAX_VALUE;

    private static int wrong = 0;
    private static String said = "";

    private Check() {
    }

    /** Names the promise, and the document's words, by which the answers from here on are due. */
    static void says(int promise, String words) {
        said = "promise " + promise + ", \"" + words + "\": ";
    }

    static void due(String what, long got, long want) {
        if (got != want) {
            wrong++;
            System.out.println(said + what + " answered " + got + ", due is " + want);
        }
    }

    static void due(String what, boolean got, boolean want) {
        due(what, got ? 1 : 0, want ? 1 : 0);
    }

    static void dueNoSuchRule(RowDrawer x, int rule, int what) {
        boolean thrown = false;
        try {
            x.rule(rule, what);
        } catch (NoSuchElementException e) {
            thrown = true;
        }
        due("rule(" + rule + ", " + what + ") throws", thrown, true);
    }

    static long pack(String signs, int from) {
        long eight = 0;
        for (int i = from; i < from + 8; i++) {
            eight = eight << 8 | (i < signs.length() ? signs.charAt(i) : 0);
        }
        return eight;
    }

    static int feed(RowDrawer x, String signs) {
        int there = x.count(6);
        for (int i = 0; i < signs.length(); i += 24) {
            there = x.feed(pack(signs, i), pack(signs, i + 8), pack(signs, i + 16));
        }
        return there;
    }

    static int read(RowDrawer x, String text) {
        feed(x, text);
        return x.text();
    }

    static int say(RowDrawer x, int... words) {
        for (int word : words) {
            x.word(word);
        }
        return x.sentence();
    }

    /** A sentence of the words from first to last. */
    static int sayAll(RowDrawer x, int first, int last) {
        for (int word = first; word <= last; word++) {
            x.word(word);
        }
        return x.sentence();
    }

    /** A drawer that read a text without a fault. */
    static RowDrawer withText(String text) {
        RowDrawer x = new RowDrawer();
        due("the text of this test, '" + text + "',", read(x, text), 0);
        return x;
    }

    static void end() {
        System.out.println(wrong == 0 ? "all answers are as due" : wrong + " answers are not as due");
        if (wrong != 0) {
            System.exit(1);
        }
    }
}
