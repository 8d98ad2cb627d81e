/** Boundary cases of finds, rows and quarrels: promises 9 to 13. */
public final class FindBoundaryTest {
    private static final String PAIR = "rule 0:left any right any;";
    private static final int[] NO_RELATIONS = {-1, 10, 32, Check.LEAST, Check.GREATEST};

    private FindBoundaryTest() {
    }

    private static void due(String what, long got, long want) {
        Check.due(what, got, want);
    }

    /** How many finds a text has in one sentence. */
    private static int findsOf(String text, int... words) {
        RowDrawer x = Check.withText(text);
        Check.say(x, words);
        return x.finds();
    }

    /** The words 1 to length. */
    private static int[] upTo(int length) {
        int[] words = new int[length];
        for (int n = 0; n < length; n++) {
            words[n] = n + 1;
        }
        return words;
    }

    public static void main(String[] args) {
        noFinds();
        itemsFillTheSentence();
        itemsAheadAndBehind();
        someStandsForNoughtToThree();
        someTwice();
        someAtTheBorders();
        someDoesNotLeaveTheSentence();
        specsAtTheirEdges();
        eachFindOnce();
        sameRuleTwice();
        findsAtTheFullest();
        findOfNoSuchNumber();
        findOfNoSuchWhat();
        findsAtTheBorders();
        barredByFirstAndLastWord();
        barredByEachOfTenBars();
        barNamesAWordNotAName();
        barOfAnAbsentWord();
        rowsOfNoSuchR();
        rowsOfEveryR();
        rowsFromEveryPlace();
        eachPairOnce();
        barredFindsMakeNoRows();
        rowsOfJoinedNames();
        rowsAtTheFullest();
        chainsAsLongAsThereAreMore();
        chainsThroughSixRs();
        chainsWithoutRows();
        chainOfARowWithItself();
        rowOfNoSuchNumber();
        rowOfNoSuchWhatOrR();
        rowsInOrder();
        quarrelOfTwoRowsOrMore();
        quarrelOfNoSuchNumber();
        quarrelOfOneThatIsNotSingle();
        quarrelsAtTheFullest();
        quarrelsOfChains();
        Check.end();
    }

    private static void noFinds() {
        Check.says(9, "How many FINDS there are.");
        RowDrawer x = new RowDrawer();
        due("no sentence, no rule", x.finds(), 0);
        Check.say(x, 1, 2);
        due("no rule", x.finds(), 0);
        Check.read(x, PAIR);
        due("both", x.finds(), 1);
        x.word(3);
        x.word(4);
        due("what is told only is no sentence", x.finds(), 1);
        x.take(0);
        due("none there", x.finds(), 0);
        due("no sentence", Check.withText(PAIR).finds(), 0);
        due("a sentence of one word", findsOf(PAIR, 1), 0);
        due("a rule that fits nowhere", findsOf("rule 0:left word 3 right any;", 1, 2), 0);
    }

    private static void itemsFillTheSentence() {
        Check.says(9, "if its ITEMS, one behind the other, stand for WORDS one behind the other");
        String ten = "rule 0:left any any any any any any any any any right any;";
        due("10 items, 9 words", findsOf(ten, upTo(9)), 0);
        due("10 items, 10 words", findsOf(ten, upTo(10)), 1);
        due("10 items, 11 words", findsOf(ten, upTo(11)), 2);
        due("10 items, 16 words", findsOf(ten, upTo(16)), 7);
        due("2 items, 1 word", findsOf(PAIR, upTo(1)), 0);
        due("2 items, 2 words", findsOf(PAIR, upTo(2)), 1);
        due("2 items, 16 words", findsOf(PAIR, upTo(16)), 15);
        due("an item behind the last word", findsOf("rule 0:left any right any any;", upTo(2)), 0);
        due("an item ahead of the first word", findsOf("rule 0:any left any right any;", upTo(2)), 0);
        due("left and right not side by side", findsOf("rule 0:left word 1 right word 3;", upTo(3)), 0);
    }

    private static void itemsAheadAndBehind() {
        Check.says(9, "if its ITEMS, one behind the other, stand for WORDS one behind the other");
        String behind = "rule 0:left word 1 right word 2 word 3 word 4;";
        due("all behind", findsOf(behind, 1, 2, 3, 4), 1);
        due("all behind, amidst others", findsOf(behind, 9, 1, 2, 3, 4, 9), 1);
        due("one missing behind", findsOf(behind, 1, 2, 3), 0);
        due("one other behind", findsOf(behind, 1, 2, 9, 4), 0);
        due("turned round behind", findsOf(behind, 1, 2, 4, 3), 0);
        due("a gap behind", findsOf(behind, 1, 2, 3, 9, 4), 0);
        String ahead = "rule 0:word 3 word 4 left word 1 right word 2;";
        due("all ahead", findsOf(ahead, 3, 4, 1, 2), 1);
        due("all ahead, amidst others", findsOf(ahead, 9, 3, 4, 1, 2, 9), 1);
        due("one missing ahead", findsOf(ahead, 4, 1, 2), 0);
        due("one other ahead", findsOf(ahead, 3, 9, 1, 2), 0);
        due("turned round ahead", findsOf(ahead, 4, 3, 1, 2), 0);
        due("a gap ahead", findsOf(ahead, 3, 9, 4, 1, 2), 0);
        String between = "rule 0:left word 1 word 3 word 4 right word 2;";
        due("all between", findsOf(between, 1, 3, 4, 2), 1);
        due("turned round between", findsOf(between, 1, 4, 3, 2), 0);
        due("one missing between", findsOf(between, 1, 3, 2), 0);
    }

    private static void someStandsForNoughtToThree() {
        Check.says(9, "some for 0 to 3 of any");
        String text = "rule 0:left word 1 some right word 2;";
        due("0", findsOf(text, 1, 2), 1);
        due("1", findsOf(text, 1, 5, 2), 1);
        due("2", findsOf(text, 1, 5, 6, 2), 1);
        due("3", findsOf(text, 1, 5, 6, 7, 2), 1);
        due("4", findsOf(text, 1, 5, 6, 7, 8, 2), 0);
        due("0 to 3 at once", findsOf(text, 1, 2, 2, 2, 2, 2, 2), 4);
        String turned = "rule 0:right word 1 some left word 2;";
        due("0, turned round", findsOf(turned, 1, 2), 1);
        due("3, turned round", findsOf(turned, 1, 5, 6, 7, 2), 1);
        due("4, turned round", findsOf(turned, 1, 5, 6, 7, 8, 2), 0);
        due("0 to 3 at once, turned round", findsOf(turned, 1, 2, 2, 2, 2, 2, 2), 4);
    }

    private static void someTwice() {
        Check.says(9, "some for 0 to 3 of any");
        String text = "rule 0:left word 1 some some right word 2;";
        due("0", findsOf(text, 1, 2), 1);
        due("6", findsOf(text, 1, 5, 5, 5, 5, 5, 5, 2), 1);
        due("7", findsOf(text, 1, 5, 5, 5, 5, 5, 5, 5, 2), 0);
        String parted = "rule 0:left word 1 some any some right word 2;";
        due("0 and any", findsOf(parted, 1, 2), 0);
        due("1 and any", findsOf(parted, 1, 5, 2), 1);
        due("7 and any", findsOf(parted, 1, 5, 5, 5, 5, 5, 5, 5, 2), 1);
        due("8 and any", findsOf(parted, 1, 5, 5, 5, 5, 5, 5, 5, 5, 2), 0);
        String eight = "rule 0:left any some some some some some some some some right any;";
        due("eight, 2 words", findsOf(eight, upTo(2)), 1);
        due("eight, 16 words", findsOf(eight, upTo(16)), 120);
    }

    private static void someAtTheBorders() {
        Check.says(9, "some for 0 to 3 of any");
        String ahead = "rule 0:word 9 some left word 1 right word 2;";
        due("ahead, 0", findsOf(ahead, 9, 1, 2), 1);
        due("ahead, 1", findsOf(ahead, 9, 5, 1, 2), 1);
        due("ahead, 2", findsOf(ahead, 9, 5, 5, 1, 2), 1);
        due("ahead, 3", findsOf(ahead, 9, 5, 5, 5, 1, 2), 1);
        due("ahead, 4", findsOf(ahead, 9, 5, 5, 5, 5, 1, 2), 0);
        String behind = "rule 0:left word 1 right word 2 some word 9;";
        due("behind, 0", findsOf(behind, 1, 2, 9), 1);
        due("behind, 1", findsOf(behind, 1, 2, 5, 9), 1);
        due("behind, 2", findsOf(behind, 1, 2, 5, 5, 9), 1);
        due("behind, 3", findsOf(behind, 1, 2, 5, 5, 5, 9), 1);
        due("behind, 4", findsOf(behind, 1, 2, 5, 5, 5, 5, 9), 0);
        due("for none at the first place", findsOf("rule 0:some left word 1 right word 2;", 1, 2), 1);
        due("for none at the last place", findsOf("rule 0:left word 1 right word 2 some;", 1, 2), 1);
        due("for none all about", findsOf("rule 0:some some left any some right any some some;", 1, 2), 1);
        due("far from the first place", findsOf("rule 0:some left word 1 right word 2;", 5, 5, 5, 5, 5, 1, 2), 1);
        due("far from the last place", findsOf("rule 0:left word 1 right word 2 some;", 1, 2, 5, 5, 5, 5, 5), 1);
    }

    private static void someDoesNotLeaveTheSentence() {
        Check.says(9, "some for 0 to 3 of any");
        due("behind the last word", findsOf("rule 0:left any right any some any;", 1, 2), 0);
        due("ahead of the first word", findsOf("rule 0:any some left any right any;", 1, 2), 0);
        int[] words = upTo(16);
        due("at 16 words", findsOf("rule 0:left word 15 some right any some;", words), 1);
        due("behind 16 words", findsOf("rule 0:left word 15 right word 16 some any;", words), 0);
        RowDrawer x = Check.withText("rule 0:left word 1 some right word 9;");
        Check.say(x, 5, 1);
        Check.say(x, 9, 5);
        due("into the next sentence", x.finds(), 0);
    }

    private static void specsAtTheirEdges() {
        Check.says(9, "that WORD, one of that sort, any");
        due("word 1, word 100", findsOf("rule 0:left word 1 right word 100;", 1, 100), 1);
        due("another word", findsOf("rule 0:left word 1 right word 100;", 1, 99), 0);
        RowDrawer x = Check.withText("rule 0:left sort 0 right sort 9;");
        Check.say(x, 1, 100);
        due("sort 0 alone", x.finds(), 0);
        x.sort(100, 9);
        due("sort 0, sort 9", x.finds(), 1);
        x.sort(1, 9);
        due("sort 9 alone", x.finds(), 0);
        x.sort(1, 0);
        x.join(1, 100);
        due("a joined word is that word still", x.finds(), 1);
    }

    private static void eachFindOnce() {
        Check.says(9, "each for which there is a way to match, once");
        due("two ways between", findsOf("rule 0:left word 1 some some right word 2;", 1, 5, 2), 1);
        due("two ways ahead", findsOf("rule 0:some left any right any;", upTo(6)), 5);
        due("two ways behind", findsOf("rule 0:left any right any some;", upTo(6)), 5);
        due("ways all about", findsOf("rule 0:some some left any some some some right any some some;", upTo(10)), 45);
        due("turned round", findsOf("rule 0:some right any some some some left any some;", upTo(10)), 45);
    }

    private static void sameRuleTwice() {
        Check.says(9, "A FIND: a SENTENCE (there), a RULE, the PLACE of left, that of right");
        due("twelve alike are twelve", findsOf(PAIR.repeat(12), 1, 2), 12);
        RowDrawer x = Check.withText(PAIR.repeat(12));
        Check.say(x, 1, 2);
        Check.say(x, 1, 2);
        due("of two sentences", x.finds(), 24);
        due("the last rule", x.find(11, 1), 11);
        due("then the next sentence", x.find(12, 0) * 100 + x.find(12, 1), 100);
    }

    private static void findsAtTheFullest() {
        Check.says(9, "How many FINDS there are.");
        RowDrawer x = Check.withText("rule 9:left any some some some some some right any;".repeat(12));
        for (int s = 0; s < 25; s++) {
            Check.sayAll(x, s + 1, s + 16);
        }
        int all = 25 * 12 * 120;
        due("25 sentences of 16 words, 12 rules", x.finds(), all);
        int[] last = {24, 11, 14, 15, 0, 9};
        for (int what = 0; what < 6; what++) {
            due("the last one's " + what, x.find(all - 1, what), last[what]);
        }
        due("one behind the last", x.find(all, 0), -1);
        due("finds of a rule", x.rule(11, 5), 25 * 120);
        due("none is barred", x.count(8), 0);
        x.take(24);
        due("without the last sentence", x.finds(), 24 * 12 * 120);
    }

    private static void findOfNoSuchNumber() {
        Check.says(10, "NONE: none such");
        RowDrawer x = new RowDrawer();
        for (int what = 0; what < 6; what++) {
            due("of none at all, what " + what, x.find(0, what), -1);
        }
        Check.read(x, PAIR);
        Check.say(x, 1, 2, 3);
        int[] none = {-1, 2, 3, 100, Check.LEAST, Check.GREATEST};
        for (int i : none) {
            for (int what = 0; what < 6; what++) {
                due("find " + i + " " + what, x.find(i, what), -1);
            }
        }
        due("the first", x.find(0, 2), 0);
        due("the last", x.find(1, 2), 1);
        x.take(0);
        due("the first is none such any more", x.find(0, 2), -1);
    }

    private static void findOfNoSuchWhat() {
        Check.says(10, "NONE: none such");
        RowDrawer x = Check.withText(PAIR);
        Check.say(x, 1, 2);
        int[] none = {-1, 6, 7, Check.LEAST, Check.GREATEST};
        for (int what : none) {
            due("what " + what, x.find(0, what), -1);
            due("what " + what + " of no find", x.find(1, what), -1);
            due("what " + what + " of find -1", x.find(-1, what), -1);
        }
    }

    private static void findsAtTheBorders() {
        Check.says(10, "Of the i-th FIND, what 0: SENTENCE, 1: RULE, 2: left, 3: right");
        RowDrawer x = Check.withText("rule 9:left word 1 some some some some some right word 16;"
            + "rule 0:right word 1 some some some some some left word 16;");
        Check.sayAll(x, 1, 16);
        int[] first = {0, 0, 0, 15, 0, 9};
        int[] last = {0, 1, 15, 0, 0, 0};
        for (int what = 0; what < 6; what++) {
            due("from end to end, what " + what, x.find(0, what), first[what]);
            due("turned round, what " + what, x.find(1, what), last[what]);
        }
    }

    private static void barredByFirstAndLastWord() {
        Check.says(10, "One is BARRED if its SENTENCE has a WORD that a bar names; the others are PLAIN.");
        for (int place = 0; place < 16; place++) {
            RowDrawer x = Check.withText("rule 0:left word 1 right word 1;bar 9;");
            for (int at = 0; at < 16; at++) {
                x.word(at == place ? 9 : 1);
            }
            x.sentence();
            int finds = place == 0 || place == 15 ? 14 : 13;
            due("finds, barred at " + place, x.finds(), finds);
            due("the first, barred at " + place, x.find(0, 4), 1);
            due("the last, barred at " + place, x.find(finds - 1, 4), 1);
            due("all, barred at " + place, x.count(8), finds);
            due("rows, barred at " + place, x.rows(0), 0);
        }
    }

    private static void barredByEachOfTenBars() {
        Check.says(10, "4: 1 if BARRED, else 0");
        RowDrawer x = Check.withText(PAIR + "bar 1;bar 2;bar 3;bar 4;bar 5;bar 6;bar 7;bar 8;bar 99;bar 100;");
        int[] words = {1, 2, 3, 4, 5, 6, 7, 8, 99, 100, 9, 98};
        for (int word : words) {
            Check.say(x, 50, word);
        }
        for (int s = 0; s < words.length; s++) {
            due("a sentence with " + words[s], x.find(s, 4), s < 10 ? 1 : 0);
        }
        due("ten in all", x.count(8), 10);
        due("finds in all", x.finds(), 12);
        due("rows", x.rows(0), 2);
    }

    private static void barNamesAWordNotAName() {
        Check.says(10, "One is BARRED if its SENTENCE has a WORD that a bar names");
        RowDrawer x = Check.withText(PAIR + "bar 1;");
        Check.say(x, 2, 3);
        x.join(2, 1);
        due("a word whose name is barred", x.find(0, 4), 0);
        due("its row", x.row(0, 0, 0), 1);
        Check.say(x, 1, 3);
        x.join(2, 2);
        x.join(1, 4);
        due("a barred word with another name", x.find(1, 4), 1);
        due("rows of the other alone", x.rows(0), 1);
    }

    private static void barOfAnAbsentWord() {
        Check.says(10, "4: 1 if BARRED, else 0");
        RowDrawer x = Check.withText(PAIR + "bar 100;");
        Check.say(x, 1, 99);
        x.word(100);
        due("told for the next sentence only", x.find(0, 4), 0);
        x.sentence();
        due("in another sentence only", x.find(0, 4), 0);
        due("none is barred", x.count(8), 0);
        Check.read(x, PAIR + "bar 99;");
        due("by another text", x.find(0, 4), 1);
        Check.read(x, PAIR);
        due("by no text any more", x.find(0, 4), 0);
    }

    private static void rowsOfNoSuchR() {
        Check.says(11, "NONE: no such R");
        RowDrawer x = new RowDrawer();
        for (int r : NO_RELATIONS) {
            due("of a new one, " + r, x.rows(r), -1);
        }
        Check.read(x, PAIR + "rule 9:left any right any;");
        Check.say(x, 1, 2);
        for (int r : NO_RELATIONS) {
            due("R " + r, x.rows(r), -1);
        }
        due("R 0", x.rows(0), 1);
        due("R 9", x.rows(9), 1);
        due("R 5, without any", x.rows(5), 0);
    }

    private static void rowsOfEveryR() {
        Check.says(11, "How many ROWS of an R");
        for (int r = 0; r < 10; r++) {
            RowDrawer x = Check.withText("rule " + r + ":left any right any;");
            Check.say(x, 1, 100);
            for (int other = 0; other < 10; other++) {
                due("rule of " + r + ", rows of " + other, x.rows(other), other == r ? 1 : 0);
            }
        }
    }

    private static void rowsFromEveryPlace() {
        Check.says(11, "pairs of NAMES (of the WORDS at left, right) of PLAIN FINDS of RULES of R");
        RowDrawer x = Check.withText("rule 0:left any some some some some some right any;"
            + "rule 1:right any some some some some some left any;");
        Check.sayAll(x, 1, 16);
        due("all ahead", x.rows(0), 120);
        due("all turned round", x.rows(1), 120);
        due("from the first place to the last", x.row(0, 14, 0) * 1000 + x.row(0, 14, 1), 1016);
        due("from the last but one to the last", x.row(0, 119, 0) * 1000 + x.row(0, 119, 1), 15016);
        due("from the second place to the first", x.row(1, 0, 0) * 1000 + x.row(1, 0, 1), 2001);
        due("from the last place to the first", x.row(1, 105, 0) * 1000 + x.row(1, 105, 1), 16001);
        due("from the last to the last but one", x.row(1, 119, 0) * 1000 + x.row(1, 119, 1), 16015);
    }

    private static void eachPairOnce() {
        Check.says(11, "Each pair once");
        RowDrawer x = Check.withText(PAIR.repeat(2) + "rule 0:right any left any;chain 0=0 0;");
        for (int n = 0; n < 5; n++) {
            Check.say(x, 1, 2, 1, 2);
        }
        due("finds", x.finds(), 45);
        due("rows: 1 1, 1 2, 2 1, 2 2", x.rows(0), 4);
        RowDrawer y = Check.withText(PAIR);
        Check.say(y, 7, 7, 7);
        due("a pair of one name", y.rows(0), 1);
        due("its first", y.row(0, 0, 0), 7);
        due("its second", y.row(0, 0, 1), 7);
    }

    private static void barredFindsMakeNoRows() {
        Check.says(11, "of PLAIN FINDS of RULES of R");
        RowDrawer x = Check.withText(PAIR + "bar 9;chain 1=0 0;");
        Check.say(x, 1, 2, 9);
        due("barred alone", x.rows(0), 0);
        Check.say(x, 1, 2);
        due("the same pair, plain", x.rows(0), 1);
        Check.say(x, 2, 3, 9);
        due("a chain through a barred one", x.rows(1), 0);
        Check.say(x, 2, 3);
        due("a chain through plain ones", x.rows(1), 1);
        x.take(1);
        due("without the plain ones", x.rows(0) * 10 + x.rows(1), 10);
    }

    private static void rowsOfJoinedNames() {
        Check.says(11, "pairs of NAMES (of the WORDS at left, right)");
        RowDrawer x = Check.withText(PAIR + "chain 1=0 0;");
        Check.say(x, 1, 2);
        Check.say(x, 3, 4);
        due("apart", x.rows(0) * 10 + x.rows(1), 20);
        x.join(3, 2);
        due("chained by a name", x.rows(0) * 10 + x.rows(1), 21);
        due("first", x.row(1, 0, 0), 1);
        due("second", x.row(1, 0, 1), 4);
        x.join(4, 2);
        x.join(1, 2);
        due("all of one name", x.rows(0) * 10 + x.rows(1), 11);
        due("that name", x.row(0, 0, 0) * 10 + x.row(0, 0, 1), 22);
        x.join(2, 100);
        due("a name of the name", x.row(0, 0, 0), 100);
    }

    /** A ring through all 100 words, in seven sentences. */
    private static RowDrawer ring(String text) {
        RowDrawer x = Check.withText(text);
        for (int first = 1; first <= 100; first += 15) {
            for (int n = 0; n < 16 && first + n <= 101; n++) {
                x.word(first + n <= 100 ? first + n : 1);
            }
            x.sentence();
        }
        return x;
    }

    private static void rowsAtTheFullest() {
        Check.says(11, "as long as there are more");
        RowDrawer x = ring(PAIR + "chain 0=0 0;");
        due("all pairs of names", x.rows(0), 10000);
        due("the first", x.row(0, 0, 0) * 1000 + x.row(0, 0, 1), 1001);
        due("the 64th", x.row(0, 63, 0) * 1000 + x.row(0, 63, 1), 1064);
        due("the 100th", x.row(0, 99, 0) * 1000 + x.row(0, 99, 1), 1100);
        due("the 101st", x.row(0, 100, 0) * 1000 + x.row(0, 100, 1), 2001);
        due("the last", x.row(0, 9999, 0) * 1000 + x.row(0, 9999, 1), 100100);
        due("one behind the last", x.row(0, 10000, 0), -1);
        x.take(0);
        due("the ring is cut", x.rows(0), 85 * 86 / 2);
        RowDrawer y = ring(PAIR + "chain 0=0 1;chain 1=0 0;chain 2=1 0;chain 3=2 2;chain 1=3 0;chain 9=1 1;");
        for (int r = 0; r < 4; r++) {
            due("all pairs of " + r, y.rows(r), 10000);
        }
        due("all pairs of 9", y.rows(9), 10000);
        due("none of 4", y.rows(4), 0);
    }

    private static void chainsAsLongAsThereAreMore() {
        Check.says(11, "as long as there are more");
        RowDrawer x = ring(PAIR + "chain 1=0 0;");
        due("two steps only", x.rows(1), 100);
        due("from 1", x.row(1, 0, 1), 3);
        due("the rows of 0 stay", x.rows(0), 100);
        Check.read(x, PAIR + "chain 1=1 0;");
        due("none to begin with", x.rows(1), 0);
        Check.read(x, PAIR + "chain 1=1 0;chain 1=0 0;");
        due("the one told later begins", x.rows(1), 10000);
        Check.read(x, PAIR + "chain 1=0 1;chain 1=0 0;");
        due("the other way round", x.rows(1), 10000);
        Check.read(x, PAIR + "rule 1:left word 100 right word 2;chain 1=0 1;");
        due("no row to end with", x.rows(1), 0);
        Check.read(x, PAIR + "rule 1:left word 50 right word 51;chain 1=0 1;");
        due("step by step to one end", x.rows(1), 100);
        due("from the one behind that end", x.row(1, 50, 0) * 1000 + x.row(1, 50, 1), 51051);
    }

    private static void chainsThroughSixRs() {
        Check.says(11, "of a chain R = P Q: a, c if a, b is a ROW of P and b, c one of Q");
        String[] texts = {"chain 1=0 0;chain 2=1 1;chain 3=2 2;chain 4=3 3;chain 5=4 4;chain 6=5 5;",
            "chain 6=5 5;chain 5=4 4;chain 4=3 3;chain 3=2 2;chain 2=1 1;chain 1=0 0;"};
        for (String text : texts) {
            RowDrawer x = ring(text + PAIR);
            x.take(6);
            for (int r = 0; r <= 6; r++) {
                due("rows of " + r, x.rows(r), 91 - (1 << r));
            }
            due("the first of 6", x.row(6, 0, 1), 65);
            due("the last of 6", x.row(6, 26, 0) * 1000 + x.row(6, 26, 1), 27091);
            due("rows of 7", x.rows(7), 0);
        }
    }

    private static void chainsWithoutRows() {
        Check.says(11, "of a chain R = P Q");
        RowDrawer x = Check.withText(PAIR + "rule 1:left word 5 right word 6;chain 2=0 1;chain 3=1 0;chain 4=5 5;");
        due("no sentence", x.rows(2), 0);
        Check.say(x, 1, 2);
        due("no row of Q", x.rows(2), 0);
        due("no row of P", x.rows(3), 0);
        Check.say(x, 5, 6);
        due("no name in common, P Q", x.rows(2), 0);
        due("no name in common, Q P", x.rows(3), 0);
        due("no rule of either", x.rows(4), 0);
        x.join(2, 5);
        due("a name in common, P Q", x.rows(2), 1);
        due("still none, Q P", x.rows(3), 0);
        due("the row", x.row(2, 0, 0) * 10 + x.row(2, 0, 1), 16);
    }

    private static void chainOfARowWithItself() {
        Check.says(11, "a, c if a, b is a ROW of P and b, c one of Q");
        RowDrawer x = Check.withText(PAIR + "chain 1=0 0;");
        Check.say(x, 100, 100);
        due("a, a with itself", x.rows(1), 1);
        due("gives a, a", x.row(1, 0, 0) * 1000 + x.row(1, 0, 1), 100100);
        RowDrawer y = Check.withText(PAIR + "chain 0=0 0;");
        Check.say(y, 1, 2, 1);
        due("there and back", y.rows(0), 4);
    }

    private static void rowOfNoSuchNumber() {
        Check.says(12, "NONE: none such");
        RowDrawer x = new RowDrawer();
        due("of none at all", x.row(0, 0, 0), -1);
        Check.read(x, PAIR);
        Check.say(x, 1, 2, 3);
        int[] none = {-1, 2, 3, 10000, Check.LEAST, Check.GREATEST};
        for (int i : none) {
            due("the first of " + i, x.row(0, i, 0), -1);
            due("the second of " + i, x.row(0, i, 1), -1);
        }
        due("of an R without any", x.row(1, 0, 0), -1);
        due("the first one", x.row(0, 0, 0), 1);
        due("the last one", x.row(0, 1, 1), 3);
    }

    private static void rowOfNoSuchWhatOrR() {
        Check.says(12, "NONE: none such");
        RowDrawer x = Check.withText(PAIR + "rule 9:left any right any;");
        Check.say(x, 1, 2);
        int[] none = {-1, 2, 3, Check.LEAST, Check.GREATEST};
        for (int what : none) {
            due("what " + what, x.row(0, 0, what), -1);
        }
        for (int r : NO_RELATIONS) {
            due("R " + r, x.row(r, 0, 0), -1);
            due("R " + r + ", second", x.row(r, 0, 1), -1);
        }
        due("R 0", x.row(0, 0, 0), 1);
        due("R 9", x.row(9, 0, 1), 2);
    }

    private static void rowsInOrder() {
        Check.says(12, "Each pair once, ordered by the first, then the second one.");
        RowDrawer x = Check.withText(PAIR);
        int[][] told = {{100, 1}, {64, 100}, {1, 100}, {63, 65}, {1, 1}, {64, 63}, {1, 64}, {63, 64}, {1, 63}, {65, 2}};
        int[][] want = {{1, 1}, {1, 63}, {1, 64}, {1, 100}, {63, 64}, {63, 65}, {64, 63}, {64, 100}, {65, 2}, {100, 1}};
        for (int[] pair : told) {
            Check.say(x, pair);
        }
        due("how many", x.rows(0), want.length);
        for (int i = 0; i < want.length; i++) {
            due("first of " + i, x.row(0, i, 0), want[i][0]);
            due("second of " + i, x.row(0, i, 1), want[i][1]);
        }
    }

    private static void quarrelOfTwoRowsOrMore() {
        Check.says(13, "QUARRELS of a single R: NAMES that are first of two ROWS of R or more.");
        RowDrawer x = Check.withText(PAIR + "single 0;");
        due("no rows", x.quarrel(0, 0), -1);
        Check.say(x, 1, 2);
        due("one row", x.quarrel(0, 0), -1);
        Check.say(x, 1, 2);
        due("the same row told twice", x.quarrel(0, 0), -1);
        Check.say(x, 3, 2);
        due("two that share the second name", x.quarrel(0, 0), -1);
        Check.say(x, 1, 1);
        due("two rows", x.quarrel(0, 0), 1);
        due("once", x.quarrel(0, 1), -1);
        Check.say(x, 1, 100);
        due("three rows", x.quarrel(0, 0), 1);
        due("still once", x.quarrel(0, 1), -1);
        x.take(3);
        due("two rows again", x.quarrel(0, 0), 1);
        x.join(100, 2);
        due("two rows of one name are one", x.quarrel(0, 0), -1);
        x.join(3, 1);
        due("two firsts of one name, one second", x.quarrel(0, 0), -1);
        x.join(100, 100);
        due("apart again", x.quarrel(0, 0), 1);
    }

    private static void quarrelOfNoSuchNumber() {
        Check.says(13, "NONE: none such");
        RowDrawer x = Check.withText(PAIR + "single 0;");
        Check.say(x, 1, 2, 1, 3, 1, 100, 1, 100, 2);
        due("the first", x.quarrel(0, 0), 1);
        due("the second, by names", x.quarrel(0, 1), 100);
        int[] none = {-1, 2, 3, 100, Check.LEAST, Check.GREATEST};
        for (int i : none) {
            due("quarrel " + i, x.quarrel(0, i), -1);
        }
    }

    private static void quarrelOfOneThatIsNotSingle() {
        Check.says(13, "NONE: none such, R is not single");
        StringBuilder rules = new StringBuilder();
        for (int r = 0; r < 10; r++) {
            rules.append("rule ").append(r).append(":left any right any;");
        }
        for (int single = 0; single < 10; single++) {
            RowDrawer x = Check.withText(rules + "single " + single + ";single " + single + ";");
            Check.say(x, 1, 2, 1, 3);
            for (int r = 0; r < 10; r++) {
                due("single " + single + ", quarrel of " + r, x.quarrel(r, 0), r == single ? 1 : -1);
            }
            for (int r : NO_RELATIONS) {
                due("single " + single + ", R " + r, x.quarrel(r, 0), -1);
            }
        }
    }

    private static void quarrelsAtTheFullest() {
        Check.says(13, "The i-th QUARREL, by NAMES, of an R");
        RowDrawer x = ring(PAIR + "chain 0=0 0;single 0;");
        for (int i = 0; i < 100; i++) {
            due("quarrel " + i, x.quarrel(0, i), i + 1);
        }
        due("one behind the last", x.quarrel(0, 100), -1);
    }

    private static void quarrelsOfChains() {
        Check.says(13, "NAMES that are first of two ROWS of R or more");
        RowDrawer x = Check.withText(PAIR + "single 0;single 1;chain 1=0 0;");
        Check.say(x, 1, 2, 3);
        due("one chained row", x.quarrel(1, 0), -1);
        Check.say(x, 2, 4);
        due("two chained rows", x.quarrel(1, 0), 1);
        due("two rows of a rule", x.quarrel(0, 0), 2);
        Check.read(x, PAIR + "single 0;chain 0=0 0;");
        due("a row of a rule and a chained one", x.quarrel(0, 0), 1);
        due("then the other", x.quarrel(0, 1), 2);
    }
}
