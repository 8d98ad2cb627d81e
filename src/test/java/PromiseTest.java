/** At least one test for each promise: ordinary inputs, edges, wrong inputs. */
public final class PromiseTest {
    private static final String PAIR = "rule 0:left any right any;";

    private PromiseTest() {
    }

    private static void due(String what, long got, long want) {
        Check.due(what, got, want);
    }

    private static void due(String what, boolean got, boolean want) {
        Check.due(what, got, want);
    }

    public static void main(String[] args) {
        newObject();
        sorts();
        joins();
        words();
        sentences();
        taking();
        feeding();
        goodTexts();
        tokenFaults();
        misplacedFaults();
        rangeFaults();
        tooManyFaults();
        faultyTextChangesNothing();
        finds();
        someTakesNoughtToThree();
        findOrder();
        rows();
        chains();
        chainsThroughHighNames();
        quarrels();
        marks();
        rules();
        best();
        learning();
        learningOfTakenAway();
        catching();
        names();
        counts();
        Check.end();
    }

    private static void newObject() {
        RowDrawer x = new RowDrawer();
        for (int what = 0; what <= 8; what++) {
            due("1 count " + what, x.count(what), 0);
        }
        due("1 finds", x.finds(), 0);
        due("1 find", x.find(0, 0), RowDrawer.NONE);
        for (int r = 0; r < 10; r++) {
            due("1 rows " + r, x.rows(r), 0);
            due("1 quarrel " + r, x.quarrel(r, 0), -1);
            due("1 learn " + r, x.learn(r), -1);
        }
        Check.dueNoSuchRule(x, 0, 0);
        due("1 best", x.best(0), 0);
        due("1 catches", x.catches(true), -1);
        due("1 learnt", x.learnt(0, 0), -1);
        for (int w = 1; w <= 100; w++) {
            due("1 named " + w, x.named(w), w);
        }
    }

    private static void sorts() {
        RowDrawer x = new RowDrawer();
        due("2 word 0", x.sort(0, 1), false);
        due("2 word 101", x.sort(101, 1), false);
        due("2 word least", x.sort(Integer.MIN_VALUE, 1), false);
        due("2 sort -1", x.sort(1, -1), false);
        due("2 sort 10", x.sort(1, 10), false);
        due("2 edges", x.sort(1, 0) && x.sort(100, 9), true);
        Check.say(x, 100, 50);
        Check.read(x, "rule 1:left sort 9 right sort 0;");
        due("2 sort 0 at first", x.finds(), 1);
        due("2 again", x.sort(50, 3), true);
        due("2 a later sort counts for sentences that came", x.finds(), 0);
        due("2 refused", x.sort(50, 10), false);
        due("2 refused changes nothing", x.finds(), 0);
        x.sort(50, 0);
        due("2 back", x.finds(), 1);
    }

    private static void joins() {
        RowDrawer x = new RowDrawer();
        due("3 no word", x.join(0, 1), false);
        due("3 no to", x.join(1, 101), false);
        due("3 no word, itself", x.join(101, 101), false);
        due("3 1 to 2", x.join(1, 2), true);
        due("3 2 to 1 leads back", x.join(2, 1), false);
        due("3 2 to 100", x.join(2, 100), true);
        due("3 100 to 1 leads back", x.join(100, 1), false);
        due("3 100 to 2 leads back", x.join(100, 2), false);
        due("3 named 1", x.named(1), 100);
        due("3 2 to 5 instead", x.join(2, 5), true);
        due("3 named 1 now", x.named(1), 5);
        due("3 100 to 2 is free now", x.join(100, 2), true);
        due("3 named 100", x.named(100), 5);
        due("3 2 to 100 leads back though 2 is joined on", x.join(2, 100), false);
        due("3 itself", x.join(2, 2), true);
        due("3 named 1 last", x.named(1), 2);
        for (int w = 10; w < 100; w++) {
            due("3 long chain", x.join(w, w + 1), true);
        }
        due("3 end of the long chain", x.named(10), 2);
    }

    private static void words() {
        RowDrawer x = new RowDrawer();
        due("4 word 0", x.word(0), -1);
        due("4 word 101", x.word(101), -1);
        for (int n = 1; n <= 16; n++) {
            due("4 word", x.word(n % 2 == 0 ? 1 : 100), n);
        }
        due("4 a 17th", x.word(1), -1);
        due("4 told", x.count(7), 16);
        due("4 it is a sentence", x.sentence(), 0);
        due("4 anew", x.word(5), 1);
    }

    private static void sentences() {
        RowDrawer x = new RowDrawer();
        due("5 nothing told", x.sentence(), -1);
        for (int s = 0; s < 40; s++) {
            due("5 sentence", Check.say(x, s + 1), s);
            due("5 nothing is told then", x.count(7), 0);
        }
        x.word(7);
        due("5 40 came", x.sentence(), -1);
        due("5 told words stay", x.count(7), 1);
        x.take(3);
        due("5 40 came though one is away", x.sentence(), -1);
    }

    private static void taking() {
        RowDrawer x = new RowDrawer();
        due("6 none such", x.take(0), false);
        Check.say(x, 1, 2);
        Check.say(x, 3, 4);
        Check.read(x, PAIR);
        due("6 finds", x.finds(), 2);
        due("6 rows", x.rows(0), 2);
        due("6 -1", x.take(-1), false);
        due("6 2", x.take(2), false);
        due("6 take", x.take(0), true);
        due("6 again", x.take(0), false);
        due("6 finds then", x.finds(), 1);
        due("6 rows then", x.rows(0), 1);
        due("6 numbers stay", x.find(0, 0), 1);
        due("6 came", x.count(0), 2);
        due("6 there", x.count(1), 1);
        due("6 next number", Check.say(x, 5), 2);
    }

    private static void feeding() {
        RowDrawer x = new RowDrawer();
        due("7 none of them", x.feed(0, -1L, 0x7f1f090b0d1e8080L), 0);
        due("7 edges", x.feed(0x0a207e1f7f000000L, 0, 0), 3);
        due("7 tilde is a bad sign", x.text(), 1 + 16 * 2);
        due("7 highest first", x.feed(Check.pack("bar 1;", 0), Check.pack("bar", 0), Check.pack(" 2;", 0)), 12);
        due("7 read in that order", x.text(), 0);
        due("7 two bars", x.count(3), 2);
        for (int n = 1; n <= 49; n++) {
            due("7 full ones", x.feed(Check.pack("        ", 0), Check.pack("        ", 0), Check.pack("        ", 0)),
                24 * n);
        }
        due("7 1199", Check.feed(x, "bar 3                  "), 1199);
        due("7 the 1200th is taken, the next left out", Check.feed(x, ";bar"), 1200);
        due("7 full", Check.feed(x, "x"), 1200);
        due("7 reads", x.text(), 0);
        due("7 empty then", x.count(6), 0);
    }

    private static void goodTexts() {
        RowDrawer x = new RowDrawer();
        due("8 no signs", x.text(), 0);
        due("8 blanks alone", Check.read(x, " \n \n"), 0);
        due("8 no blanks needed", Check.read(x, "rule0:leftany"), 1 + 16 * 6);
        due("8 as few as can be", Check.read(x, "rule0:left any right word7some sort0;bar1;chain1=2 3;single9;"), 0);
        due("8 rule", x.rule(0, 4), 4);
        due("8 counts", x.count(2) * 100 + x.count(3) * 10 + x.count(4), 111);
        due("8 lines", Check.read(x, "\nrule\n0009:right\nsort 9 left word 100;single\n0;"), 0);
        due("8 R 9", x.rule(0, 0), 9);
        due("8 the old text is gone", x.count(3) + x.count(4), 0);
        due("8 all limits", Check.read(x, repeat("rule 0:some some left any any any any any any any right any;", 12)
            + repeat("bar 1;", 10) + repeat("chain 0=1 2;", 6) + repeat("single 1;", 20)), 0);
        due("8 12 rules", x.count(2), 12);
        due("8 10 bars", x.count(3), 10);
        due("8 6 chains", x.count(4), 6);
        due("8 10 items", x.rule(11, 4), 10);
        due("8 an empty one takes its place", x.text(), 0);
        due("8 no rules", x.count(2), 0);
    }

    private static String repeat(String text, int times) {
        return text.repeat(times);
    }

    private static void fault(String text, int kind, int place) {
        RowDrawer x = new RowDrawer();
        due("8 fault of '" + text + "'", Check.read(x, text), kind + 16 * place);
        due("8 tape after '" + text + "'", x.count(6), 0);
    }

    private static void tokenFaults() {
        fault("Rule 0", 1, 0);
        fault("  %", 1, 2);
        fault("bar 5 ; ,", 1, 8);
        fault("bar 00001;", 1, 4);
        fault("bar 0001;", 0, 0);
        fault("bar 10000;", 1, 4);
        fault("bar 9999;", 4, 4);
        fault("rule 0:left any right anything;", 1, 22);
        fault("rule 0:left any right anythings;", 1, 22);
        fault("singlesix 0;", 1, 0);
        fault("rule 0:left anyz", 1, 12);
        fault("rule 0:left anya", 1, 12);
        fault("rule 0:left anyA", 1, 15);
        fault("rule 0:left any`", 1, 15);
        fault("rule 0:left any{", 1, 15);
        fault("bar 1/;", 1, 5);
        fault("bar 1 :", 1, 6);
        fault("bar 1<", 1, 5);
        for (String word : new String[] {"rule 0", "bar 1;", "chain 0", "single 0;"}) {
            fault("x" + word.substring(1), 1, 0);
            fault(word.charAt(0) + word, 1, 0);
            fault(word.substring(0, 2) + "x" + word.substring(3), 1, 0);
        }
        for (String word : new String[] {"left any", "right any", "some", "any", "word 1", "sort 1"}) {
            fault("rule 0:x" + word.substring(1), 1, 7);
            fault("rule 0:" + word.charAt(0) + word, 1, 7);
            fault("rule 0:" + word.substring(0, 2) + "x" + word.substring(3), 1, 7);
        }
        fault("bar 5x;", 1, 5);
        fault("bar 5bar 6;", 1, 5);
        fault("bar -5;", 1, 4);
        fault("bar 5.", 1, 5);
    }

    private static void misplacedFaults() {
        fault("; ", 1, 0);
        fault("7", 1, 0);
        fault("word 1;", 1, 0);
        fault("rule", 1, 4);
        fault("rule ", 1, 5);
        fault("rule :", 1, 5);
        fault("rule 0=", 1, 6);
        fault("rule 0:", 1, 7);
        fault("rule 0: ;", 1, 8);
        fault("rule 0:left some right any;", 1, 12);
        fault("rule 0:left left any", 1, 12);
        fault("rule 0:left any right any left any;", 1, 26);
        fault("rule 0:left any right any right any;", 1, 26);
        fault("rule 0:left any;", 1, 15);
        fault("rule 0:right any;", 1, 16);
        fault("rule 0:any;", 1, 10);
        fault("rule 0:left any right any  ", 1, 27);
        fault("rule 0:left word right any;", 1, 17);
        fault("rule 0:left sort;", 1, 16);
        fault("rule 0:left any 5", 1, 16);
        fault("rule 0:left any right any rule 0", 1, 26);
        fault("bar;", 1, 3);
        fault("bar 1", 1, 5);
        fault("bar 1 2;", 1, 6);
        fault("chain 0 1", 1, 8);
        fault("chain 0=1;", 1, 9);
        fault("chain 0=1 2 3;", 1, 12);
        fault("chain 0=1 2", 1, 11);
        fault("single;", 1, 6);
        fault("single 0", 1, 8);
        fault("single 0 1;", 1, 9);
    }

    private static void rangeFaults() {
        fault("rule 10:", 4, 5);
        fault("rule 0:left word 0", 4, 17);
        fault("rule 0:left word 101", 4, 17);
        fault("rule 0:left word 100 right word 1;", 0, 0);
        fault("rule 0:sort 10", 4, 12);
        fault("rule 0:left sort 9 right sort 0;", 0, 0);
        fault("bar 0;", 4, 4);
        fault("bar 101;", 4, 4);
        fault("bar 100;bar 1;", 0, 0);
        fault("chain 10=", 4, 6);
        fault("chain 9=10", 4, 8);
        fault("chain 9=9 10;", 4, 10);
        fault("single 10;", 4, 7);
        fault("bar 101;;", 4, 4);
    }

    private static void tooManyFaults() {
        String ten = "rule 0:some some some some some some some some left any right any";
        fault(ten + ";", 0, 0);
        fault(ten + " any", 5, ten.length() + 1);
        fault(ten + " some", 5, ten.length() + 1);
        fault(ten + " word 101", 5, ten.length() + 1);
        fault(ten + " left any", 1, ten.length() + 1);
        fault(ten + " right any", 1, ten.length() + 1);
        fault(ten + " single", 1, ten.length() + 1);
        String nine = "rule 0:some some some some some some some some left any some";
        fault(nine + " right any;", 5, nine.length() + 1);
        fault(nine + " left any;", 1, nine.length() + 1);
        fault(nine + ";", 1, nine.length());
        fault(repeat(PAIR, 12) + "rule x", 5, 12 * PAIR.length());
        fault(repeat("bar 7;", 10) + "bar", 5, 60);
        fault(repeat("bar 7;", 9) + "bar bar", 1, 58);
        fault(repeat("chain 0=1 2;", 6) + "chain 99", 5, 72);
    }

    private static void faultyTextChangesNothing() {
        RowDrawer x = new RowDrawer();
        Check.say(x, 1, 2);
        Check.read(x, PAIR + "bar 3;chain 1=0 0;single 0;");
        due("8 faulty", Check.read(x, "rule 5:left any some right any;bar 1;bar 2;chain 1=1 1;single 7;single"), 1 + 16 * 70);
        due("8 rules as before", x.count(2), 1);
        due("8 bars as before", x.count(3), 1);
        due("8 rule as before", x.rule(0, 0), 0);
        due("8 find is plain as before", x.count(8), 0);
        due("8 rows as before", x.rows(0), 1);
    }

    private static void finds() {
        RowDrawer x = new RowDrawer();
        Check.say(x, 1, 2, 3);
        due("9 no rules", x.finds(), 0);
        Check.read(x, "rule 4:left any right any;rule 5:right word 2 left word 3;bar 9;");
        due("9 finds", x.finds(), 3);
        Check.say(x, 9, 3);
        due("9 a sentence more", x.finds(), 4);
        due("10 -1", x.find(-1, 0), -1);
        due("10 4", x.find(4, 0), -1);
        due("10 what -1", x.find(0, -1), -1);
        due("10 what 6", x.find(0, 6), -1);
        long[] third = {0, 1, 2, 1, 0, 5};
        long[] last = {1, 0, 0, 1, 1, 4};
        for (int what = 0; what < 6; what++) {
            due("10 third " + what, x.find(2, what), third[what]);
            due("10 last " + what, x.find(3, what), last[what]);
        }
        Check.say(x, 1);
        due("9 a sentence too short", x.finds(), 4);
        Check.read(x, "rule 4:left any any right any;");
        due("10 its places, asked first", x.find(0, 2) * 10 + x.find(0, 3), 2);
        due("9 another text", x.finds(), 1);
        Check.read(x, "rule 4:left any right any any;");
        due("9 what follows must fit, too", x.finds(), 1);
        Check.read(x, "rule 4:word 2 left any right any;");
        due("9 what goes ahead must fit, too", x.finds(), 0);
    }

    private static void someTakesNoughtToThree() {
        RowDrawer x = new RowDrawer();
        Check.say(x, 1, 5, 5, 5, 2, 2);
        Check.read(x, "rule 0:left word 1 some right word 2;");
        due("9 three between, not four", x.finds(), 1);
        due("10 that", x.find(0, 3), 4);
        Check.read(x, "rule 0:left word 1 some some right word 2;");
        due("9 each once, however many ways", x.finds(), 2);
        Check.read(x, "rule 0:some left word 2 right word 2 some;");
        due("9 some for none at the end", x.finds(), 1);
        Check.read(x, "rule 0:some left word 1 some right word 5;");
        due("9 some for none ahead", x.finds(), 3);
        Check.read(x, "rule 0:word 1 some left word 2 right any;");
        due("9 some reaches from a word", x.finds(), 1);
        Check.read(x, "rule 0:left word 5 right word 5 some word 2 word 2;");
        due("9 some reaches to a word", x.finds(), 2);
    }

    private static void findOrder() {
        RowDrawer x = new RowDrawer();
        Check.say(x, 1, 1, 1);
        Check.say(x, 1, 1);
        Check.read(x, "rule 1:right any some left any;rule 0:left any some right any;");
        int[][] want = {{0, 0, 1, 0}, {0, 0, 2, 0}, {0, 0, 2, 1}, {0, 1, 0, 1}, {0, 1, 0, 2}, {0, 1, 1, 2},
            {1, 0, 1, 0}, {1, 1, 0, 1}};
        due("10 how many", x.finds(), want.length);
        for (int i = 0; i < want.length; i++) {
            for (int what = 0; what < 4; what++) {
                due("10 order " + i + " " + what, x.find(i, what), want[i][what]);
            }
        }
    }

    private static void rows() {
        RowDrawer x = new RowDrawer();
        Check.say(x, 100, 64, 63, 1);
        Check.say(x, 7, 8);
        Check.say(x, 100, 64);
        Check.read(x, "rule 3:left any right any;rule 3:right any left word 1;bar 7;");
        due("11 -1", x.rows(-1), -1);
        due("11 10", x.rows(10), -1);
        due("11 each pair once, barred ones not", x.rows(3), 4);
        due("11 another R", x.rows(4), 0);
        int[][] want = {{1, 63}, {63, 1}, {64, 63}, {100, 64}};
        for (int i = 0; i < want.length; i++) {
            due("12 first " + i, x.row(3, i, 0), want[i][0]);
            due("12 second " + i, x.row(3, i, 1), want[i][1]);
        }
        due("12 i 4", x.row(3, 4, 0), -1);
        due("12 i -1", x.row(3, -1, 0), -1);
        due("12 what 2", x.row(3, 0, 2), -1);
        due("12 what -1", x.row(3, 0, -1), -1);
        due("12 R 10", x.row(10, 0, 0), -1);
        due("12 R -1", x.row(-1, 0, 0), -1);
        x.join(64, 63);
        due("11 names joined", x.rows(3), 4);
        due("12 joined to itself", x.row(3, 2, 0) * 1000 + x.row(3, 2, 1), 63063);
        x.join(1, 63);
        due("11 more joined", x.rows(3), 2);
        x.join(1, 1);
        due("11 less joined", x.rows(3), 4);
        x.join(7, 1);
        due("11 a bar names a word, not a name", x.rows(3), 4);
    }

    private static void chains() {
        RowDrawer x = new RowDrawer();
        for (int w = 1; w < 30; w++) {
            Check.say(x, w, w + 1);
        }
        Check.read(x, PAIR + "chain 1=0 0;");
        due("11 chain of two", x.rows(1), 28);
        due("12 its second", x.row(1, 0, 1), 3);
        Check.read(x, PAIR + "chain 0=0 0;");
        due("11 as long as there are more", x.rows(0), 29 * 30 / 2);
        Check.read(x, "chain 2=0 1;chain 1=0 2;chain 1=0 0;" + PAIR);
        due("11 chains through one another: even ones", x.rows(1), 14 * 15);
        due("11 chains through one another: odd ones", x.rows(2), 13 * 14 + 14);
        Check.say(x, 30, 1);
        Check.read(x, PAIR + "chain 9=0 9;chain 9=0 0;");
        due("11 a round", x.rows(9), 900);
        due("12 its last", x.row(9, 899, 0) * 100 + x.row(9, 899, 1), 3030);
    }

    private static void chainsThroughHighNames() {
        RowDrawer x = new RowDrawer();
        int[] names = {1, 63, 64, 99, 100, 2};
        for (int n = 0; n + 1 < names.length; n++) {
            Check.say(x, names[n], names[n + 1]);
        }
        Check.read(x, PAIR + "chain 1=0 0;chain 2=0 1;chain 2=0 2;");
        int[][] two = {{1, 64}, {63, 99}, {64, 100}, {99, 2}};
        due("11 two steps", x.rows(1), two.length);
        for (int i = 0; i < two.length; i++) {
            due("12 first " + i, x.row(1, i, 0), two[i][0]);
            due("12 second " + i, x.row(1, i, 1), two[i][1]);
        }
        due("11 three steps and more", x.rows(2), 6);
        due("12 the longest", x.row(2, 0, 1), 2);
    }

    private static void quarrels() {
        RowDrawer x = new RowDrawer();
        Check.say(x, 5, 1);
        Check.say(x, 5, 2);
        Check.say(x, 90, 2);
        Check.say(x, 90, 100);
        Check.say(x, 8, 3);
        Check.say(x, 8, 3);
        Check.read(x, PAIR);
        due("13 not single", x.quarrel(0, 0), -1);
        Check.read(x, PAIR + "single 0;single 4;");
        due("13 first", x.quarrel(0, 0), 5);
        due("13 second", x.quarrel(0, 1), 90);
        due("13 third", x.quarrel(0, 2), -1);
        due("13 -1", x.quarrel(0, -1), -1);
        due("13 single without rows", x.quarrel(4, 0), -1);
        due("13 R 10", x.quarrel(10, 0), -1);
        due("13 R -1", x.quarrel(-1, 0), -1);
        x.join(1, 2);
        due("13 joined, no quarrel", x.quarrel(0, 0), 90);
        x.join(8, 90);
        due("13 of the name", x.quarrel(0, 0), 90);
        due("13 once", x.quarrel(0, 1), -1);
    }

    private static void marks() {
        RowDrawer x = new RowDrawer();
        due("14 no sentence", x.mark(0, 0, 1, 0, true), -1);
        Check.say(x, 1, 2, 3, 4, 5, 6, 7, 8);
        due("14 left -1", x.mark(0, -1, 1, 0, true), -1);
        due("14 right -1", x.mark(0, 1, -1, 0, true), -1);
        due("14 left 8", x.mark(0, 8, 1, 0, true), -1);
        due("14 right 8", x.mark(0, 1, 8, 0, true), -1);
        due("14 the same", x.mark(0, 1, 1, 0, true), -1);
        due("14 R -1", x.mark(0, 0, 1, -1, true), -1);
        due("14 R 10", x.mark(0, 0, 1, 10, true), -1);
        due("14 sentence -1", x.mark(-1, 0, 1, 0, true), -1);
        due("14 sentence 1", x.mark(1, 0, 1, 0, true), -1);
        for (int n = 0; n < 56; n++) {
            due("14 mark", x.mark(0, n / 7, n % 7 < n / 7 ? n % 7 : n % 7 + 1, 9, n % 2 == 0), n + 1);
        }
        due("14 in place", x.mark(0, 0, 1, 9, false), 56);
        due("14 another R", x.mark(0, 0, 1, 0, false), 57);
        for (int n = 57; n < 60; n++) {
            x.mark(0, 0, n - 55, 0, true);
        }
        due("14 60", x.count(5), 60);
        due("14 60 are there", x.mark(0, 0, 1, 1, true), -1);
        due("14 in place of one of 60", x.mark(0, 0, 1, 9, true), 60);
        x.take(0);
        due("14 away", x.mark(0, 0, 1, 9, true), -1);
        due("14 marks stay", x.count(5), 60);
    }

    private static void rules() {
        RowDrawer x = new RowDrawer();
        Check.say(x, 1, 2, 3);
        Check.say(x, 1, 2, 3);
        Check.read(x, "rule 7:left any right any;rule 8:left word 1 some right word 3;rule 7:left word 3 right any;bar 1;");
        due("15 share without any", x.rule(0, 3), -1);
        x.mark(0, 0, 1, 7, true);
        x.mark(0, 1, 2, 7, true);
        x.mark(0, 0, 2, 7, false);
        x.mark(0, 1, 0, 7, true);
        x.mark(0, 0, 2, 8, false);
        x.mark(1, 0, 1, 7, false);
        due("15 R", x.rule(0, 0), 7);
        due("15 right ones, barred as they are", x.rule(0, 1), 2);
        due("15 wrong ones", x.rule(0, 2), 1);
        due("15 share, cut", x.rule(0, 3), 666);
        due("15 items", x.rule(1, 4), 3);
        due("15 finds", x.rule(0, 5), 4);
        due("15 another R", x.rule(1, 1) * 10 + x.rule(1, 2), 1);
        due("15 share 0", x.rule(1, 3), 0);
        due("15 no finds", x.rule(2, 5), 0);
        due("15 catches none", x.rule(2, 3), -1);
        x.take(0);
        due("15 sentence away, right", x.rule(0, 1), 0);
        due("15 sentence away, finds", x.rule(0, 5), 2);
        Check.dueNoSuchRule(x, -1, 0);
        Check.dueNoSuchRule(x, 3, 0);
        Check.dueNoSuchRule(x, 0, -1);
        Check.dueNoSuchRule(x, 0, 6);
        x.text();
        Check.dueNoSuchRule(x, 0, 0);
    }

    private static void best() {
        RowDrawer x = new RowDrawer();
        Check.say(x, 1, 2, 3, 4);
        Check.read(x, "rule 0:left word 1 right any;rule 0:left word 2 right any;rule 0:left any right any;"
            + "rule 0:left word 1 right word 2;rule 1:left word 1 right any;");
        due("16 no marks", x.best(60), 0);
        x.mark(0, 0, 1, 0, true);
        due("16 least number of equal ones", x.best(0), 1);
        x.mark(0, 1, 2, 0, true);
        due("16 the fewest rules", x.best(0), 4);
        x.mark(0, 2, 3, 0, false);
        due("16 none wrong", x.best(0), 3);
        due("16 one wrong", x.best(1), 4);
        x.mark(0, 0, 1, 1, true);
        due("16 of another R", x.best(0), 19);
        due("16 -1", x.best(-1), -1);
        due("16 61", x.best(61), -1);
        due("16 60", x.best(60), 20);
        x.take(0);
        due("16 sentence away", x.best(60), 0);
    }

    private static void learning() {
        RowDrawer x = new RowDrawer();
        for (int w = 1; w <= 5; w++) {
            x.sort(w, w % 2);
        }
        Check.say(x, 9, 1, 2, 3, 4);
        Check.say(x, 1, 2, 5, 5);
        Check.say(x, 1, 4, 4);
        due("17 R -1", x.learn(-1), -1);
        due("17 R 10", x.learn(10), -1);
        x.mark(0, 3, 1, 6, true);
        x.mark(1, 2, 0, 6, true);
        x.mark(1, 0, 2, 6, true);
        x.mark(1, 1, 0, 6, true);
        x.mark(2, 2, 0, 6, false);
        due("17 no marks", x.learn(5), -1);
        due("17 learn", x.learn(6), 3);
        int[][] want = {{0, 1, 2}, {0, 2, 0}, {1, 1, 1}};
        for (int i = 0; i < 3; i++) {
            for (int what = 0; what < 3; what++) {
                due("18 spec " + i + " " + what, x.learnt(i, what), want[i][what]);
            }
        }
        due("18 -1", x.learnt(-1, 0), -1);
        due("18 3", x.learnt(3, 0), -1);
        due("18 what -1", x.learnt(0, -1), -1);
        due("18 what 3", x.learnt(0, 3), -1);
        due("19 right", x.catches(true), 2);
        due("19 wrong", x.catches(false), 0);
        x.mark(2, 2, 0, 6, true);
        due("18 as it was learnt", x.learnt(2, 0), 1);
        due("17 anew", x.learn(6), 3);
        due("18 any", x.learnt(2, 0), 2);
        due("18 of any", x.learnt(2, 1), 0);
        due("18 sort 0", x.learnt(1, 0) * 10 + x.learnt(1, 1), 10);
        due("17 in vain", x.learn(5), -1);
        due("18 the latest stays", x.learnt(2, 0), 2);
        due("19 the latest stays", x.catches(true), 3);
    }

    private static void learningOfTakenAway() {
        RowDrawer x = new RowDrawer();
        Check.say(x, 1, 2, 3);
        Check.say(x, 4, 5);
        x.mark(0, 0, 2, 0, true);
        x.mark(1, 0, 1, 0, true);
        due("17 like the first", x.learn(0), 3);
        x.take(0);
        due("17 like the first that is there", x.learn(0), 2);
        due("18 its word", x.learnt(1, 1), 5);
        x.take(1);
        due("17 none there", x.learn(0), -1);
        due("18 stays", x.learnt(1, 1), 5);
        due("19 none there", x.catches(true), 0);
    }

    private static void catching() {
        RowDrawer x = new RowDrawer();
        Check.say(x, 1, 2);
        Check.say(x, 3, 2);
        Check.say(x, 2, 1);
        due("19 nothing learnt", x.catches(false), -1);
        x.mark(0, 0, 1, 2, true);
        x.mark(1, 0, 1, 2, true);
        due("17 learn", x.learn(2), 2);
        due("18 sort", x.learnt(0, 0), 1);
        due("19 both", x.catches(true), 2);
        x.mark(2, 1, 0, 2, false);
        due("19 the other way round", x.catches(false), 0);
        x.mark(0, 0, 1, 3, false);
        due("19 of another R", x.catches(false), 0);
        x.mark(1, 0, 1, 2, false);
        due("19 marked anew, wrong", x.catches(false), 1);
        due("19 marked anew, right", x.catches(true), 1);
        x.sort(3, 4);
        due("19 sorts as they are now", x.catches(false), 0);
        x.take(0);
        due("19 away", x.catches(true), 0);
    }

    private static void names() {
        RowDrawer x = new RowDrawer();
        due("20 0", x.named(0), -1);
        due("20 101", x.named(101), -1);
        due("20 least", x.named(Integer.MIN_VALUE), -1);
        x.join(1, 2);
        x.join(2, 3);
        due("20 name of the one it is joined to", x.named(1), 3);
        x.join(3, 4);
        due("20 through all", x.named(1), 4);
        due("20 itself", x.named(4), 4);
    }

    private static void counts() {
        RowDrawer x = new RowDrawer();
        due("21 -1", x.count(-1), -1);
        due("21 9", x.count(9), -1);
        Check.say(x, 1, 2);
        Check.say(x, 3, 2, 3);
        Check.say(x, 4);
        x.take(2);
        x.word(1);
        Check.read(x, PAIR + "rule 1:left word 3 some right word 3;bar 3;bar 3;bar 9;chain 1=1 1;");
        x.mark(0, 0, 1, 0, true);
        Check.feed(x, "four");
        int[] want = {3, 2, 2, 3, 1, 1, 4, 1, 3};
        for (int what = 0; what < want.length; what++) {
            due("21 count " + what, x.count(what), want[what]);
        }
    }
}
