/** Boundary cases of a new object, words, names and sentences: promises 1 to 6, and 20. */
public final class WordBoundaryTest {
    private static final String PAIR = "rule 0:left any right any;";
    private static final int[] NO_WORDS = {0, -1, 101, -100, 256 + 1, Check.LEAST, Check.GREATEST};
    private static final int[] NO_SORTS = {-1, 10, 256, Check.LEAST, Check.GREATEST};

    private WordBoundaryTest() {
    }

    private static void due(String what, long got, long want) {
        Check.due(what, got, want);
    }

    private static void due(String what, boolean got, boolean want) {
        Check.due(what, got, want);
    }

    public static void main(String[] args) {
        newObjectHasNoSentence();
        newObjectHasNoRule();
        newObjectSharesNothing();
        sortIsNoughtAtFirst();
        sortsAreNoughtToNine();
        noSuchWordToSort();
        noSuchSort();
        refusedSortStays();
        sortOfSentencesThatCame();
        joinTakesFirstAndLastWord();
        noSuchWordsToJoin();
        joinToItselfIsNoMore();
        joinThatLeadsStraightBack();
        joinThatLeadsBackThroughAll();
        joinAnewForgetsTheOldWay();
        refusedJoinStays();
        wordsAreCountedToSixteen();
        noSuchWordToTell();
        seventeenthWord();
        sentenceWithoutWords();
        shortestAndLongestSentence();
        nothingIsToldThen();
        fortySentences();
        placesOfTakenOnesAreNotFree();
        noSuchSentenceToTake();
        takenTwice();
        firstAndLastTaken();
        numberStays();
        takenOneIsNotThere();
        namedAtFirst();
        noSuchWordToName();
        namedThroughAll();
        Check.end();
    }

    private static void newObjectHasNoSentence() {
        Check.says(1, "No SENTENCE");
        RowDrawer x = new RowDrawer();
        due("count(0)", x.count(0), 0);
        due("count(1)", x.count(1), 0);
        due("count(7)", x.count(7), 0);
        due("take(0)", x.take(0), false);
        due("mark", x.mark(0, 0, 1, 0, true), -1);
        due("count(5)", x.count(5), 0);
        due("finds", x.finds(), 0);
        due("find", x.find(0, 0), -1);
        due("the first sentence's number", Check.say(x, 1), 0);
    }

    private static void newObjectHasNoRule() {
        Check.says(1, "no RULE");
        RowDrawer x = new RowDrawer();
        for (int what = 2; what <= 8; what++) {
            due("count " + what, x.count(what), 0);
        }
        Check.dueNoSuchRule(x, 0, 0);
        due("best", x.best(60), 0);
        for (int r = 0; r < 10; r++) {
            due("rows " + r, x.rows(r), 0);
            due("row " + r, x.row(r, 0, 0), -1);
            due("no single " + r, x.quarrel(r, 0), -1);
        }
        due("learnt", x.learnt(0, 0), -1);
        due("catches right", x.catches(true), -1);
        due("catches wrong", x.catches(false), -1);
        Check.say(x, 1, 2);
        due("no rule, no find", x.finds(), 0);
    }

    private static void newObjectSharesNothing() {
        Check.says(1, "No SENTENCE, no RULE.");
        RowDrawer x = new RowDrawer();
        Check.say(x, 1, 2);
        Check.read(x, PAIR + "bar 9;chain 1=0 0;single 0;");
        x.sort(1, 5);
        x.join(1, 2);
        x.mark(0, 0, 1, 0, true);
        x.learn(0);
        x.word(3);
        Check.feed(x, "bar");
        RowDrawer y = new RowDrawer();
        for (int what = 0; what <= 8; what++) {
            due("count of a second one " + what, y.count(what), 0);
        }
        due("named of a second one", y.named(1), 1);
        due("learnt of a second one", y.learnt(0, 0), -1);
        due("the first one keeps its own", x.finds(), 1);
    }

    private static void sortIsNoughtAtFirst() {
        Check.says(2, "each has a sort, 0 to 9 (0 at first)");
        RowDrawer x = Check.withText("rule 0:left sort 0 right sort 0;");
        for (int first = 1; first <= 100; first += 16) {
            Check.sayAll(x, first, Math.min(first + 15, 100));
        }
        due("seven sentences, all words of sort 0", x.finds(), 6 * 15 + 3);
    }

    private static void sortsAreNoughtToNine() {
        Check.says(2, "A WORD's sort: true");
        for (int s = 0; s <= 9; s++) {
            RowDrawer x = Check.withText("rule 0:left sort " + s + " right sort " + s + ";");
            Check.say(x, 1, 100);
            due("before sort " + s, x.finds(), s == 0 ? 1 : 0);
            due("word 1, sort " + s, x.sort(1, s), true);
            due("one of both " + s, x.finds(), s == 0 ? 1 : 0);
            due("word 100, sort " + s, x.sort(100, s), true);
            due("both " + s, x.finds(), 1);
            due("the same again " + s, x.sort(100, s), true);
            due("both still " + s, x.finds(), 1);
            due("another sort", x.sort(1, 9 - s), true);
            due("only the latest counts " + s, x.finds(), 0);
        }
    }

    private static void noSuchWordToSort() {
        Check.says(2, "false: no such WORD");
        RowDrawer x = new RowDrawer();
        for (int word : NO_WORDS) {
            due("sort " + word, x.sort(word, 1), false);
            due("sort " + word + ", no such sort either", x.sort(word, 10), false);
        }
    }

    private static void noSuchSort() {
        Check.says(2, "false: no such WORD, sort");
        RowDrawer x = new RowDrawer();
        for (int s : NO_SORTS) {
            due("of word 1, " + s, x.sort(1, s), false);
            due("of word 100, " + s, x.sort(100, s), false);
        }
    }

    private static void refusedSortStays() {
        Check.says(2, "false: no such WORD, sort");
        RowDrawer x = Check.withText("rule 0:left sort 7 right sort 7;");
        Check.say(x, 1, 100);
        x.sort(1, 7);
        x.sort(100, 7);
        for (int s : NO_SORTS) {
            x.sort(1, s);
            x.sort(100, s);
            due("after sort " + s + " the sorts are as before", x.finds(), 1);
        }
        for (int word : NO_WORDS) {
            x.sort(word, 3);
            due("after word " + word + " the sorts are as before", x.finds(), 1);
        }
    }

    private static void sortOfSentencesThatCame() {
        Check.says(2, "A WORD's sort: true");
        RowDrawer x = Check.withText("rule 0:left sort 3 right sort 3;");
        Check.say(x, 1, 1);
        Check.say(x, 2, 1);
        due("no find", x.finds(), 0);
        due("no row", x.rows(0), 0);
        x.sort(1, 3);
        due("a row of a sentence of that word alone", x.rows(0), 1);
        due("a find of it", x.finds(), 1);
        x.sort(2, 3);
        due("rows of both", x.rows(0), 2);
        x.sort(1, 4);
        due("no row any more", x.rows(0), 0);
        due("no find any more", x.finds(), 0);
    }

    private static void joinTakesFirstAndLastWord() {
        Check.says(3, "A WORD is joined to another one");
        RowDrawer x = new RowDrawer();
        due("1 to 100", x.join(1, 100), true);
        due("named 1", x.named(1), 100);
        RowDrawer y = new RowDrawer();
        due("100 to 1", y.join(100, 1), true);
        due("named 100", y.named(100), 1);
        due("once more", y.join(100, 1), true);
        due("named 100 still", y.named(100), 1);
    }

    private static void noSuchWordsToJoin() {
        Check.says(3, "false: no such WORDS");
        RowDrawer x = new RowDrawer();
        for (int word : NO_WORDS) {
            due(word + " to 1", x.join(word, 1), false);
            due("1 to " + word, x.join(1, word), false);
            due(word + " to itself", x.join(word, word), false);
        }
        due("0 to 101", x.join(0, 101), false);
        due("named 1", x.named(1), 1);
    }

    private static void joinToItselfIsNoMore() {
        Check.says(3, "(itself: no more)");
        RowDrawer x = new RowDrawer();
        due("one that is not joined", x.join(1, 1), true);
        due("named 1", x.named(1), 1);
        x.join(100, 1);
        due("one to which another is joined", x.join(1, 1), true);
        due("the other stays joined", x.named(100), 1);
        due("one that is joined", x.join(100, 100), true);
        due("named 100", x.named(100), 100);
        due("the other way round is free then", x.join(1, 100), true);
        due("named 1 then", x.named(1), 100);
    }

    private static void joinThatLeadsStraightBack() {
        Check.says(3, "it would lead back to it");
        RowDrawer x = new RowDrawer();
        x.join(1, 2);
        due("2 to 1", x.join(2, 1), false);
        due("named 2", x.named(2), 2);
        due("named 1", x.named(1), 2);
        x.join(2, 3);
        due("2, that is joined on, to 1", x.join(2, 1), false);
        due("named 1 then", x.named(1), 3);
        due("1 to 3, by which it goes already, leads not back", x.join(1, 3), true);
        due("2 to 1 now", x.join(2, 1), true);
        due("named 2 then", x.named(2), 3);
    }

    private static void joinThatLeadsBackThroughAll() {
        Check.says(3, "it would lead back to it");
        RowDrawer x = new RowDrawer();
        for (int w = 1; w < 100; w++) {
            due(w + " to the next", x.join(w, w + 1), true);
        }
        for (int w = 1; w < 100; w++) {
            due("100 to " + w, x.join(100, w), false);
        }
        due("99 to 1, though it is joined on", x.join(99, 1), false);
        due("named 1", x.named(1), 100);
        due("named 100", x.named(100), 100);
        due("the way is cut", x.join(50, 50), true);
        due("100 to 1 now", x.join(100, 1), true);
        due("named 51", x.named(51), 50);
        due("50 to 51", x.join(50, 51), false);
        due("50 to 100", x.join(50, 100), false);
    }

    private static void joinAnewForgetsTheOldWay() {
        Check.says(3, "A WORD is joined to another one");
        RowDrawer x = new RowDrawer();
        x.join(1, 2);
        due("1 to 3 instead", x.join(1, 3), true);
        due("named 1", x.named(1), 3);
        due("2 to 1 leads not back any more", x.join(2, 1), true);
        due("named 2", x.named(2), 3);
        due("3 to 2 leads back", x.join(3, 2), false);
    }

    private static void refusedJoinStays() {
        Check.says(3, "false: no such WORDS, it would lead back to it");
        RowDrawer x = new RowDrawer();
        x.join(1, 2);
        x.join(2, 3);
        for (int word : NO_WORDS) {
            x.join(1, word);
            x.join(word, 1);
        }
        x.join(3, 1);
        x.join(2, 1);
        for (int w = 1; w <= 100; w++) {
            due("named " + w, x.named(w), w < 3 ? 3 : w);
        }
    }

    private static void wordsAreCountedToSixteen() {
        Check.says(4, "A WORD comes behind the SENTENCE that is told: how many");
        RowDrawer x = new RowDrawer();
        for (int n = 1; n <= 16; n++) {
            due("word " + n, x.word(n % 2 == 0 ? 100 : 1), n);
            due("told " + n, x.count(7), n);
        }
    }

    private static void noSuchWordToTell() {
        Check.says(4, "NONE: no such WORD");
        RowDrawer x = new RowDrawer();
        for (int word : NO_WORDS) {
            due("word " + word, x.word(word), -1);
            due("none told", x.count(7), 0);
        }
        due("the next one is the first", x.word(1), 1);
        for (int word : NO_WORDS) {
            due("word behind one " + word, x.word(word), -1);
        }
        due("the next one is the second", x.word(100), 2);
    }

    private static void seventeenthWord() {
        Check.says(4, "16 are there");
        RowDrawer x = Check.withText("rule 0:left word 15 right word 16;");
        for (int n = 1; n <= 16; n++) {
            x.word(n);
        }
        due("a 17th", x.word(17), -1);
        due("an 18th", x.word(16), -1);
        due("a 17th that is none", x.word(0), -1);
        due("16 told", x.count(7), 16);
        due("they are a sentence", x.sentence(), 0);
        due("the last ones are as told", x.finds(), 1);
        due("left is at 14", x.find(0, 2), 14);
        due("right is at 15", x.find(0, 3), 15);
        due("none is told then", x.word(5), 1);
    }

    private static void sentenceWithoutWords() {
        Check.says(5, "NONE: no WORDS");
        RowDrawer x = new RowDrawer();
        due("at first", x.sentence(), -1);
        x.word(0);
        x.word(101);
        due("behind refused words", x.sentence(), -1);
        due("none came", x.count(0), 0);
        due("one of one word", Check.say(x, 1), 0);
        due("right behind a sentence", x.sentence(), -1);
        due("one came", x.count(0), 1);
        due("the next number", Check.say(x, 1), 1);
    }

    private static void shortestAndLongestSentence() {
        Check.says(5, "with 1 to 16 WORDS, at PLACES from 0");
        RowDrawer x = Check.withText(PAIR);
        due("one word", Check.say(x, 100), 0);
        due("it has no pair", x.finds(), 0);
        due("two words", Check.say(x, 100, 1), 1);
        due("they have one", x.finds(), 1);
        due("left at 0", x.find(0, 2), 0);
        due("right at 1", x.find(0, 3), 1);
        due("16 words", Check.sayAll(x, 1, 16), 2);
        due("they have 15", x.finds(), 16);
        due("the first left", x.find(1, 2), 0);
        due("the last right", x.find(15, 3), 15);
    }

    private static void nothingIsToldThen() {
        Check.says(5, "What was told is a SENTENCE (nothing is told then)");
        RowDrawer x = Check.withText("rule 0:left word 9 right word 8;rule 1:left word 1 right word 9;");
        Check.say(x, 9, 8, 7, 6, 5, 4, 3, 2, 1);
        due("told", x.count(7), 0);
        due("the next begins anew", x.word(9), 1);
        due("and is short", x.sentence(), 1);
        due("and has nothing of the one ahead", x.finds(), 1);
        due("that find is of the first", x.find(0, 0), 0);
    }

    private static void fortySentences() {
        Check.says(5, "NONE: no WORDS, 40 came");
        RowDrawer x = Check.withText(PAIR);
        for (int s = 0; s < 40; s++) {
            due("number", Check.say(x, 1, 2), s);
        }
        due("no words and 40", x.sentence(), -1);
        due("words may be told still", x.word(3), 1);
        due("a 41st", x.sentence(), -1);
        due("once more", x.sentence(), -1);
        due("what was told is told still", x.count(7), 1);
        due("40 came", x.count(0), 40);
        due("40 are there", x.count(1), 40);
        due("their finds", x.finds(), 40);
        due("the last one's number", x.find(39, 0), 39);
    }

    private static void placesOfTakenOnesAreNotFree() {
        Check.says(5, "40 came");
        RowDrawer x = new RowDrawer();
        for (int s = 0; s < 40; s++) {
            Check.say(x, s + 1);
        }
        for (int s = 0; s < 40; s++) {
            x.take(s);
            x.word(1);
            due("40 came, " + (s + 1) + " of them taken away", x.sentence(), -1);
        }
        due("none is there", x.count(1), 0);
        due("40 came", x.count(0), 40);
    }

    private static void noSuchSentenceToTake() {
        Check.says(6, "false: none such");
        RowDrawer x = new RowDrawer();
        int[] none = {-1, 1, 2, 39, 40, Check.LEAST, Check.GREATEST};
        due("0 of none", x.take(0), false);
        x.word(1);
        due("0 while it is told", x.take(0), false);
        x.sentence();
        for (int s : none) {
            due("take " + s, x.take(s), false);
        }
        due("one is there", x.count(1), 1);
        Check.say(x, 1);
        due("1 once it came", x.take(1), true);
        due("one is there still", x.count(1), 1);
    }

    private static void takenTwice() {
        Check.says(6, "false: none such, it is");
        RowDrawer x = new RowDrawer();
        Check.say(x, 1);
        Check.say(x, 2);
        due("once", x.take(0), true);
        due("twice", x.take(0), false);
        due("thrice", x.take(0), false);
        due("one is there", x.count(1), 1);
        Check.say(x, 3);
        due("though another came", x.take(0), false);
        due("two are there", x.count(1), 2);
    }

    private static void firstAndLastTaken() {
        Check.says(6, "A SENTENCE is taken away: true");
        RowDrawer x = new RowDrawer();
        for (int s = 0; s < 40; s++) {
            Check.say(x, 1);
        }
        due("the last", x.take(39), true);
        due("the first", x.take(0), true);
        due("behind the last", x.take(40), false);
        due("38 are there", x.count(1), 38);
        for (int s = 1; s < 39; s++) {
            due("each other " + s, x.take(s), true);
        }
        due("none is there", x.count(1), 0);
        due("one more", x.take(20), false);
    }

    private static void numberStays() {
        Check.says(6, "one may be taken away (its number stays)");
        RowDrawer x = Check.withText(PAIR);
        Check.say(x, 1, 2);
        Check.say(x, 3, 4);
        x.take(0);
        due("the other one's number", x.find(0, 0), 1);
        due("a mark of it", x.mark(1, 0, 1, 0, true), 1);
        due("the next number", Check.say(x, 5, 6), 2);
        x.take(2);
        due("the next number, though the last is away", Check.say(x, 7, 8), 3);
        due("4 came", x.count(0), 4);
        due("the last find's number", x.find(1, 0), 3);
    }

    private static void takenOneIsNotThere() {
        Check.says(6, "A SENTENCE is taken away");
        RowDrawer x = Check.withText(PAIR + "rule 1:left word 3 right word 9;bar 9;single 0;");
        Check.say(x, 1, 2);
        Check.say(x, 1, 3, 9);
        Check.say(x, 1, 4);
        x.mark(2, 0, 1, 0, true);
        x.learn(0);
        due("finds", x.finds(), 5);
        due("barred ones", x.count(8), 3);
        due("quarrel", x.quarrel(0, 0), 1);
        due("caught", x.rule(0, 1) * 10 + x.catches(true), 11);
        x.take(1);
        due("finds without 1", x.finds(), 2);
        due("barred ones without 1", x.count(8), 0);
        x.take(2);
        due("rows without 2", x.rows(0), 1);
        due("quarrel without 2", x.quarrel(0, 0), -1);
        due("caught without 2", x.rule(0, 1) * 10 + x.catches(true), 0);
        x.take(0);
        due("finds without any", x.finds(), 0);
        due("rows without any", x.rows(0), 0);
    }

    private static void namedAtFirst() {
        Check.says(20, "a NAME: itself at first");
        RowDrawer x = new RowDrawer();
        for (int w = 1; w <= 100; w++) {
            due("named " + w, x.named(w), w);
        }
    }

    private static void noSuchWordToName() {
        Check.says(20, "NONE: none such");
        RowDrawer x = new RowDrawer();
        x.join(1, 100);
        for (int word : NO_WORDS) {
            due("named " + word, x.named(word), -1);
        }
        due("named 1", x.named(1), 100);
        due("named 100", x.named(100), 100);
    }

    private static void namedThroughAll() {
        Check.says(20, "or that of another WORD to which it is joined");
        RowDrawer x = new RowDrawer();
        for (int w = 100; w > 1; w--) {
            x.join(w, w - 1);
        }
        for (int w = 1; w <= 100; w++) {
            due("named " + w, x.named(w), 1);
        }
        x.join(2, 2);
        due("cut behind 2", x.named(100), 2);
        due("cut before 1", x.named(1), 1);
    }
}
