/** Boundary cases of marks, of rules tried against them, of the best set and of what is learnt: promises 14 to 19. */
public final class MarkBoundaryTest {
    private static final String PAIR = "rule 0:left any right any;";
    private static final String ALL_AHEAD = "rule 0:left any some some some some some right any;";
    private static final int[] NO_RELATIONS = {-1, 10, 32, Check.LEAST, Check.GREATEST};

    private MarkBoundaryTest() {
    }

    private static void due(String what, long got, long want) {
        Check.due(what, got, want);
    }

    private static void due(String what, boolean got, boolean want) {
        Check.due(what, got, want);
    }

    public static void main(String[] args) {
        markOfNoSuchSentence();
        markOfATakenSentence();
        markOfNoSuchPlaces();
        markOfTheSamePlaceTwice();
        markOfNoSuchR();
        marksDiffer();
        markInPlaceOfOneAhead();
        sixtyMarks();
        inPlaceOfOneOfSixty();
        marksOfATakenSentenceStay();
        noSuchRule();
        noSuchWhatOfARule();
        lastOfTwelveRules();
        relationsAndItemsAtTheirEdges();
        caughtMarks();
        barredFindsCatch();
        shareWithoutAny();
        shareIsCut();
        findsOfARule();
        bestForNoSuchM();
        bestWithoutRulesOrMarks();
        bestWithAtMostMWrong();
        wrongOnesCountOnce();
        fewestRules();
        leastNumber();
        bestOfTwelveRules();
        bestOfTheRulesThereAre();
        rightOnesOutweighRules();
        learnNoSuchR();
        learnNoSuchMarks();
        learnOfOneMark();
        learnTwoToSixteenSpecs();
        learnFromThoseLikeTheFirst();
        learnFromSentencesThere();
        learnWordThenSortThenAny();
        learnFromSixtyMarks();
        learnInVainKeepsTheLatest();
        learntNoSuchSpec();
        learntNumbersAtTheirEdges();
        learntLeftAndRight();
        catchesWithoutALesson();
        catchesOfItsROnly();
        catchesNow();
        catchesTheSameWayRoundOnly();
        Check.end();
    }

    private static void markOfNoSuchSentence() {
        Check.says(14, "NONE: no such SENTENCE (there)");
        RowDrawer x = new RowDrawer();
        due("0 of none", x.mark(0, 0, 1, 0, true), -1);
        x.word(1);
        x.word(2);
        due("0 while it is told", x.mark(0, 0, 1, 0, true), -1);
        x.sentence();
        int[] none = {-1, 1, 39, 40, Check.LEAST, Check.GREATEST};
        for (int s : none) {
            due("sentence " + s, x.mark(s, 0, 1, 0, true), -1);
        }
        due("no marks", x.count(5), 0);
        due("0 now", x.mark(0, 0, 1, 0, true), 1);
        for (int s = 1; s < 40; s++) {
            Check.say(x, 1, 2);
        }
        due("the last of 40", x.mark(39, 0, 1, 0, true), 2);
        due("one behind it", x.mark(40, 0, 1, 0, true), -1);
    }

    private static void markOfATakenSentence() {
        Check.says(14, "NONE: no such SENTENCE (there)");
        RowDrawer x = new RowDrawer();
        Check.say(x, 1, 2);
        Check.say(x, 1, 2);
        x.mark(0, 0, 1, 0, true);
        x.take(0);
        due("a new one", x.mark(0, 1, 0, 0, true), -1);
        due("one in place", x.mark(0, 0, 1, 0, false), -1);
        due("of the other", x.mark(1, 0, 1, 0, true), 2);
    }

    private static void markOfNoSuchPlaces() {
        Check.says(14, "NONE: no such SENTENCE (there), PLACES");
        RowDrawer x = new RowDrawer();
        Check.sayAll(x, 1, 16);
        Check.say(x, 1, 2);
        Check.say(x, 1);
        int[] none = {-1, 16, 17, Check.LEAST, Check.GREATEST};
        for (int place : none) {
            due("left " + place, x.mark(0, place, 0, 0, true), -1);
            due("right " + place, x.mark(0, 0, place, 0, true), -1);
            due("both " + place, x.mark(0, place, place, 0, true), -1);
        }
        due("left behind a short one", x.mark(1, 2, 0, 0, true), -1);
        due("right behind a short one", x.mark(1, 0, 2, 0, true), -1);
        due("of one word, right", x.mark(2, 0, 1, 0, true), -1);
        due("of one word, left", x.mark(2, 1, 0, 0, true), -1);
        due("of one word, both", x.mark(2, 0, 0, 0, true), -1);
        due("none yet", x.count(5), 0);
        due("from end to end", x.mark(0, 0, 15, 0, true), 1);
        due("turned round", x.mark(0, 15, 0, 0, true), 2);
        due("of two words", x.mark(1, 0, 1, 0, true), 3);
        due("of two words, turned round", x.mark(1, 1, 0, 0, true), 4);
    }

    private static void markOfTheSamePlaceTwice() {
        Check.says(14, "left, right PLACES (two of its)");
        RowDrawer x = new RowDrawer();
        Check.sayAll(x, 1, 16);
        for (int place = 0; place < 16; place++) {
            due("place " + place, x.mark(0, place, place, 0, true), -1);
        }
        due("none", x.count(5), 0);
    }

    private static void markOfNoSuchR() {
        Check.says(14, "NONE: no such SENTENCE (there), PLACES, R");
        RowDrawer x = new RowDrawer();
        Check.say(x, 1, 2);
        for (int r : NO_RELATIONS) {
            due("R " + r, x.mark(0, 0, 1, r, true), -1);
        }
        due("R 0", x.mark(0, 0, 1, 0, true), 1);
        due("R 9", x.mark(0, 0, 1, 9, true), 2);
        for (int r : NO_RELATIONS) {
            due("R " + r + " once more", x.mark(0, 0, 1, r, true), -1);
        }
        due("two", x.count(5), 2);
    }

    private static void marksDiffer() {
        Check.says(14, "in place of one ahead of the same SENTENCE, PLACES, R");
        RowDrawer x = new RowDrawer();
        Check.say(x, 1, 2, 3);
        Check.say(x, 1, 2, 3);
        due("one", x.mark(0, 0, 1, 0, true), 1);
        due("another sentence", x.mark(1, 0, 1, 0, true), 2);
        due("another left", x.mark(0, 2, 1, 0, true), 3);
        due("another right", x.mark(0, 0, 2, 0, true), 4);
        due("turned round", x.mark(0, 1, 0, 0, true), 5);
        due("another R", x.mark(0, 0, 1, 1, true), 6);
        due("the same", x.mark(0, 0, 1, 0, true), 6);
        due("the same, wrong", x.mark(0, 0, 1, 0, false), 6);
    }

    private static void markInPlaceOfOneAhead() {
        Check.says(14, "A MARK (in place of one ahead of the same SENTENCE, PLACES, R): how many");
        RowDrawer x = Check.withText(PAIR);
        Check.say(x, 1, 2, 3);
        x.mark(0, 0, 1, 0, true);
        x.mark(0, 1, 2, 0, true);
        due("two right", x.rule(0, 1) * 10 + x.rule(0, 2), 20);
        due("one of them wrong now", x.mark(0, 0, 1, 0, false), 2);
        due("one right, one wrong", x.rule(0, 1) * 10 + x.rule(0, 2), 11);
        due("wrong again", x.mark(0, 0, 1, 0, false), 2);
        due("still", x.rule(0, 1) * 10 + x.rule(0, 2), 11);
        due("right again", x.mark(0, 0, 1, 0, true), 2);
        due("two right again", x.rule(0, 1) * 10 + x.rule(0, 2), 20);
    }

    /** A drawer with a sentence of 16 words, 60 of its pairs marked, of R 0, the first ones of them wrong. */
    private static RowDrawer withSixtyMarks(String text, int wrongOnes) {
        RowDrawer x = Check.withText(text);
        Check.sayAll(x, 1, 16);
        int n = 0;
        for (int left = 0; n < 60; left++) {
            for (int right = left + 1; right < 16 && n < 60; right++) {
                due("mark " + n, x.mark(0, left, right, 0, n >= wrongOnes), n + 1);
                n++;
            }
        }
        return x;
    }

    private static void sixtyMarks() {
        Check.says(14, "60 are there");
        RowDrawer x = withSixtyMarks("", 0);
        due("60", x.count(5), 60);
        due("a 61st", x.mark(0, 4, 11, 0, true), -1);
        due("a 61st, wrong", x.mark(0, 4, 11, 0, false), -1);
        due("a 61st of another R", x.mark(0, 0, 1, 1, true), -1);
        due("still 60", x.count(5), 60);
    }

    private static void inPlaceOfOneOfSixty() {
        Check.says(14, "A MARK (in place of one ahead of the same SENTENCE, PLACES, R): how many");
        RowDrawer x = withSixtyMarks(PAIR, 0);
        due("right ones", x.rule(0, 1), 5);
        due("the first", x.mark(0, 0, 1, 0, false), 60);
        due("right ones then", x.rule(0, 1), 4);
        due("wrong ones then", x.rule(0, 2), 1);
        due("the last", x.mark(0, 4, 10, 0, false), 60);
        due("60", x.count(5), 60);
    }

    private static void marksOfATakenSentenceStay() {
        Check.says(14, "MARKS, 60 at most");
        RowDrawer x = withSixtyMarks(PAIR, 0);
        Check.say(x, 1, 2);
        x.take(0);
        due("60 still", x.count(5), 60);
        due("no room for another one's", x.mark(1, 0, 1, 0, true), -1);
        due("none is caught", x.rule(0, 1), 0);
        due("one find", x.rule(0, 5), 1);
    }

    private static void noSuchRule() {
        Check.says(15, "NoSuchElementException: none such.");
        RowDrawer x = new RowDrawer();
        int[] none = {-1, 0, 1, 11, 12, Check.LEAST, Check.GREATEST};
        for (int k : none) {
            for (int what = 0; what < 6; what++) {
                Check.dueNoSuchRule(x, k, what);
            }
        }
        Check.read(x, PAIR + PAIR);
        due("rule 0", x.rule(0, 4), 2);
        due("rule 1", x.rule(1, 4), 2);
        Check.dueNoSuchRule(x, 2, 4);
        Check.dueNoSuchRule(x, -1, 4);
        Check.read(x, PAIR);
        Check.dueNoSuchRule(x, 1, 4);
        Check.read(x, PAIR + PAIR + PAIR + "rule");
        Check.dueNoSuchRule(x, 1, 4);
        x.text();
        Check.dueNoSuchRule(x, 0, 4);
    }

    private static void noSuchWhatOfARule() {
        Check.says(15, "NoSuchElementException: none such.");
        RowDrawer x = Check.withText(PAIR);
        int[] none = {-1, 6, 7, Check.LEAST, Check.GREATEST};
        for (int what : none) {
            Check.dueNoSuchRule(x, 0, what);
            Check.dueNoSuchRule(x, 1, what);
        }
        boolean isThatVeryOne = false;
        try {
            x.rule(0, 6);
        } catch (RuntimeException e) {
            isThatVeryOne = e.getClass() == java.util.NoSuchElementException.class;
        }
        due("its class", isThatVeryOne, true);
        due("the rule is as before", x.rule(0, 4), 2);
    }

    private static void lastOfTwelveRules() {
        Check.says(15, "At most 12 RULES");
        RowDrawer x = Check.withText(PAIR.repeat(11) + "rule 9:left word 1 some right any;");
        Check.say(x, 1, 2, 3);
        x.mark(0, 0, 2, 9, true);
        x.mark(0, 0, 1, 9, false);
        int[] want = {9, 1, 1, 500, 3, 2};
        for (int what = 0; what < 6; what++) {
            due("what " + what, x.rule(11, what), want[what]);
        }
        Check.dueNoSuchRule(x, 12, 0);
    }

    private static void relationsAndItemsAtTheirEdges() {
        Check.says(15, "Of a RULE, what 0: R");
        RowDrawer x = Check.withText("rule 0:left any right any;"
            + "rule 9:left any any any any any any any any any right any;");
        due("R 0", x.rule(0, 0), 0);
        due("R 9", x.rule(1, 0), 9);
        due("2 items", x.rule(0, 4), 2);
        due("10 items", x.rule(1, 4), 10);
    }

    private static void caughtMarks() {
        Check.says(15, "A RULE of R CATCHES a MARK of R if it has a FIND there");
        RowDrawer x = Check.withText(PAIR);
        Check.say(x, 1, 2, 3);
        Check.say(x, 1, 2, 3);
        due("no marks", x.rule(0, 1) * 10 + x.rule(0, 2), 0);
        x.mark(0, 0, 2, 0, true);
        x.mark(0, 1, 0, 0, true);
        x.mark(0, 0, 1, 1, true);
        due("too far, turned round, of another R", x.rule(0, 1), 0);
        x.mark(0, 0, 1, 0, true);
        due("one", x.rule(0, 1) * 10 + x.rule(0, 2), 10);
        x.mark(1, 1, 2, 0, false);
        due("a wrong one, of another sentence", x.rule(0, 1) * 10 + x.rule(0, 2), 11);
        x.take(1);
        due("that sentence taken away", x.rule(0, 1) * 10 + x.rule(0, 2), 10);
        Check.read(x, "rule 0:left any any right any;");
        due("another rule", x.rule(0, 1), 1);
        x.sort(2, 5);
        Check.read(x, "rule 0:left any sort 5 right any;");
        due("by a sort", x.rule(0, 1), 1);
        x.sort(2, 4);
        due("by another sort", x.rule(0, 1), 0);
    }

    private static void barredFindsCatch() {
        Check.says(15, "if it has a FIND there (BARRED or not)");
        RowDrawer x = Check.withText(PAIR + "bar 1;");
        Check.say(x, 1, 2);
        x.mark(0, 0, 1, 0, true);
        due("barred", x.count(8), 1);
        due("caught", x.rule(0, 1), 1);
        due("share", x.rule(0, 3), 1000);
        due("in the best set", x.best(0), 1);
    }

    private static void shareWithoutAny() {
        Check.says(15, "3: SHARE (NONE without any)");
        RowDrawer x = Check.withText(PAIR);
        due("no sentence", x.rule(0, 3), -1);
        Check.say(x, 1, 2, 3);
        due("no mark", x.rule(0, 3), -1);
        x.mark(0, 0, 2, 0, true);
        x.mark(0, 0, 1, 9, true);
        due("no mark that it catches", x.rule(0, 3), -1);
        x.mark(0, 0, 1, 0, false);
        due("a wrong one", x.rule(0, 3), 0);
        x.mark(0, 0, 1, 0, true);
        due("a right one", x.rule(0, 3), 1000);
        x.take(0);
        due("taken away", x.rule(0, 3), -1);
    }

    private static void shareIsCut() {
        Check.says(15, "of the MARKS that it CATCHES how many of 1000 are right ones, cut");
        RowDrawer x = Check.withText(ALL_AHEAD);
        Check.sayAll(x, 1, 16);
        x.mark(0, 0, 1, 0, true);
        x.mark(0, 0, 2, 0, false);
        due("1 of 2", x.rule(0, 3), 500);
        x.mark(0, 0, 3, 0, false);
        due("1 of 3", x.rule(0, 3), 333);
        x.mark(0, 0, 2, 0, true);
        due("2 of 3", x.rule(0, 3), 666);
        due("0 of 60", withSixtyMarks(ALL_AHEAD, 60).rule(0, 3), 0);
        due("1 of 60", withSixtyMarks(ALL_AHEAD, 59).rule(0, 3), 16);
        due("59 of 60", withSixtyMarks(ALL_AHEAD, 1).rule(0, 3), 983);
        due("60 of 60", withSixtyMarks(ALL_AHEAD, 0).rule(0, 3), 1000);
        due("60 right ones", withSixtyMarks(ALL_AHEAD, 0).rule(0, 1), 60);
        due("60 wrong ones", withSixtyMarks(ALL_AHEAD, 60).rule(0, 2), 60);
    }

    private static void findsOfARule() {
        Check.says(15, "4: ITEMS, 5: FINDS");
        RowDrawer x = Check.withText(PAIR + "rule 0:left word 9 right any;" + ALL_AHEAD + "bar 2;");
        for (int k = 0; k < 3; k++) {
            due("no sentence, rule " + k, x.rule(k, 5), 0);
        }
        Check.say(x, 1, 2, 3);
        Check.say(x, 1);
        int[] want = {2, 0, 3};
        for (int k = 0; k < 3; k++) {
            due("barred ones, too, rule " + k, x.rule(k, 5), want[k]);
        }
        x.take(0);
        due("none there", x.rule(0, 5) + x.rule(2, 5), 0);
    }

    private static void bestForNoSuchM() {
        Check.says(16, "THE BEST SET for m (0 .. 60), as bits; NONE for another m.");
        RowDrawer x = new RowDrawer();
        int[] none = {-1, 61, 62, Check.LEAST, Check.GREATEST};
        for (int m : none) {
            due("of a new one, m " + m, x.best(m), -1);
        }
        Check.read(x, PAIR);
        Check.say(x, 1, 2);
        x.mark(0, 0, 1, 0, true);
        for (int m : none) {
            due("m " + m, x.best(m), -1);
        }
        for (int m = 0; m <= 60; m++) {
            due("m " + m, x.best(m), 1);
        }
    }

    private static void bestWithoutRulesOrMarks() {
        Check.says(16, "that which CATCHES most right ones; of equal ones that with the fewest RULES");
        RowDrawer x = new RowDrawer();
        due("nothing, 0", x.best(0), 0);
        due("nothing, 60", x.best(60), 0);
        Check.say(x, 1, 2);
        x.mark(0, 0, 1, 0, true);
        due("no rule", x.best(60), 0);
        Check.read(x, "rule 0:left word 5 right any;rule 1:left any right any;");
        due("none that catches it", x.best(60), 0);
        Check.read(x, PAIR);
        due("one that catches it", x.best(0), 1);
        x.mark(0, 0, 1, 0, false);
        due("a wrong one alone, 0", x.best(0), 0);
        due("a wrong one alone, 60", x.best(60), 0);
        x.mark(0, 0, 1, 0, true);
        x.take(0);
        due("taken away", x.best(60), 0);
    }

    private static void bestWithAtMostMWrong() {
        Check.says(16, "of all sets that CATCH (any of them does) at most m wrong MARKS");
        RowDrawer x = withSixtyMarks(ALL_AHEAD, 59);
        due("59 wrong, m 0", x.best(0), 0);
        due("59 wrong, m 58", x.best(58), 0);
        due("59 wrong, m 59", x.best(59), 1);
        due("59 wrong, m 60", x.best(60), 1);
        RowDrawer y = withSixtyMarks(ALL_AHEAD, 60);
        due("60 wrong, m 60", y.best(60), 0);
        RowDrawer z = withSixtyMarks(PAIR, 1);
        due("1 wrong, m 0", z.best(0), 0);
        due("1 wrong, m 1", z.best(1), 1);
    }

    private static void wrongOnesCountOnce() {
        Check.says(16, "of all sets that CATCH (any of them does) at most m wrong MARKS");
        RowDrawer x = Check.withText("rule 0:left word 1 some right any;rule 0:left any some right word 3;");
        Check.say(x, 1, 2, 3);
        x.mark(0, 0, 1, 0, true);
        x.mark(0, 1, 2, 0, true);
        due("both", x.best(0), 3);
        x.mark(0, 0, 2, 0, false);
        due("a wrong one that both catch, m 0", x.best(0), 0);
        due("a wrong one that both catch, m 1", x.best(1), 3);
        due("m 2", x.best(2), 3);
    }

    private static void fewestRules() {
        Check.says(16, "of equal ones that with the fewest RULES");
        RowDrawer x = Check.withText("rule 0:left word 1 right any;rule 0:left word 2 right any;" + PAIR);
        Check.say(x, 1, 2, 3, 4);
        x.mark(0, 0, 1, 0, true);
        x.mark(0, 1, 2, 0, true);
        due("one for two", x.best(0), 4);
        x.mark(0, 2, 3, 0, false);
        due("two of them, as the one is barred by its wrong mark", x.best(0), 3);
        due("one for two again", x.best(1), 4);
        x.mark(0, 1, 2, 0, false);
        due("a rule that brings nothing is not in it", x.best(60), 1);
        RowDrawer y = Check.withText(PAIR + "rule 0:left word 1 right any;rule 0:left word 2 right any;"
            + "rule 0:left word 3 right any;");
        Check.say(y, 1, 2, 3, 4);
        y.mark(0, 0, 1, 0, true);
        y.mark(0, 1, 2, 0, true);
        due("one told ahead of two", y.best(0), 1);
        y.mark(0, 2, 3, 0, true);
        due("one told ahead of three", y.best(0), 1);
    }

    private static void leastNumber() {
        Check.says(16, "of equal ones the least number (bit k for RULE k)");
        RowDrawer x = Check.withText(PAIR.repeat(12));
        Check.say(x, 1, 2);
        x.mark(0, 0, 1, 0, true);
        due("twelve alike", x.best(0), 1);
        RowDrawer y = Check.withText("rule 0:left sort 1 right any;rule 0:left sort 3 right any;"
            + "rule 0:left any right sort 4;rule 0:left any right sort 2;");
        int[] sorts = {1, 4, 3, 2, 1, 2, 3, 4};
        for (int w = 1; w <= 8; w++) {
            y.sort(w, sorts[w - 1]);
        }
        for (int s = 0; s < 4; s++) {
            Check.say(y, 2 * s + 1, 2 * s + 2);
            y.mark(s, 0, 1, 0, s < 2);
        }
        due("none without a wrong one", y.best(0), 0);
        due("1 and 2 rather than 0 and 3", y.best(1), 6);
        due("0 and 1 rather than any others", y.best(2), 3);
    }

    private static void bestOfTwelveRules() {
        Check.says(16, "THE BEST SET for m (0 .. 60), as bits");
        StringBuilder text = new StringBuilder();
        for (int w = 1; w <= 12; w++) {
            text.append("rule 0:left word ").append(w).append(" right any;");
        }
        RowDrawer x = Check.withText(text.toString());
        Check.sayAll(x, 1, 13);
        int want = 0;
        for (int k = 11; k >= 0; k--) {
            x.mark(0, k, k + 1, 0, true);
            want |= 1 << k;
            due("from rule " + k, x.best(0), want);
        }
        due("all", x.best(60), 4095);
        for (int k = 0; k < 12; k++) {
            x.mark(0, k, k + 1, 0, false);
            due("wrong up to rule " + k, x.best(60), 4095 & -2 << k);
        }
    }

    private static void bestOfTheRulesThereAre() {
        Check.says(16, "THE BEST SET of RULES for m: of all sets");
        String[] rules = {"rule 0:left word 9 right any;", "rule 0:left word 1 right any;",
            "rule 0:left word 2 right any;"};
        RowDrawer x = Check.withText(rules[0] + rules[1] + rules[2]);
        Check.say(x, 1, 2, 3);
        x.mark(0, 0, 1, 0, true);
        x.mark(0, 1, 2, 0, true);
        due("of three", x.best(0), 6);
        Check.read(x, rules[0] + rules[1]);
        due("of two", x.best(0), 2);
        Check.read(x, rules[0]);
        due("of one that catches none", x.best(0), 0);
        Check.read(x, rules[0] + rules[1] + rules[2]);
        due("of three again", x.best(0), 6);
        Check.read(x, "");
        due("of none", x.best(0), 0);
        Check.read(x, rules[2]);
        due("of another one", x.best(0), 1);
    }

    private static void rightOnesOutweighRules() {
        Check.says(16, "that which CATCHES most right ones");
        RowDrawer x = Check.withText(PAIR + "rule 0:left word 1 some right word 4;rule 1:left any right any;");
        Check.say(x, 1, 2, 3, 4);
        x.mark(0, 0, 1, 0, true);
        x.mark(0, 1, 2, 0, true);
        x.mark(0, 0, 3, 0, true);
        x.mark(0, 2, 3, 1, true);
        due("three rules for four right ones", x.best(0), 7);
        x.mark(0, 0, 1, 0, false);
        due("a wrong one: two without it", x.best(0), 6);
        due("or three with it", x.best(1), 7);
    }

    private static void learnNoSuchR() {
        Check.says(17, "NONE: no such R");
        RowDrawer x = new RowDrawer();
        Check.say(x, 1, 2, 3);
        x.mark(0, 0, 1, 0, true);
        x.mark(0, 0, 2, 9, true);
        for (int r : NO_RELATIONS) {
            due("R " + r, x.learn(r), -1);
        }
        due("nothing was learnt", x.catches(true), -1);
        due("R 0", x.learn(0), 2);
        due("R 9", x.learn(9), 3);
    }

    private static void learnNoSuchMarks() {
        Check.says(17, "NONE: no such R, no such MARKS");
        RowDrawer x = new RowDrawer();
        for (int r = 0; r < 10; r++) {
            due("none at all, R " + r, x.learn(r), -1);
        }
        Check.say(x, 1, 2);
        x.mark(0, 0, 1, 0, false);
        due("a wrong one", x.learn(0), -1);
        x.mark(0, 0, 1, 1, true);
        due("a right one of another R", x.learn(0), -1);
        x.mark(0, 0, 1, 0, true);
        due("a right one", x.learn(0), 2);
        x.mark(0, 0, 1, 0, false);
        due("it is wrong now", x.learn(0), -1);
        due("the other one", x.learn(1), 2);
        x.take(0);
        due("taken away", x.learn(1), -1);
    }

    private static void spec(RowDrawer x, int i, int kind, int number, int role) {
        due("spec " + i + ", kind", x.learnt(i, 0), kind);
        due("spec " + i + ", number", x.learnt(i, 1), number);
        due("spec " + i + ", role", x.learnt(i, 2), role);
    }

    private static void learnOfOneMark() {
        Check.says(17, "word, if all have that WORD there");
        RowDrawer x = new RowDrawer();
        Check.say(x, 9, 1, 50, 100, 9);
        x.mark(0, 1, 3, 0, true);
        due("three specs", x.learn(0), 3);
        spec(x, 0, 0, 1, 1);
        spec(x, 1, 0, 50, 0);
        spec(x, 2, 0, 100, 2);
        due("no fourth", x.learnt(3, 0), -1);
    }

    private static void learnTwoToSixteenSpecs() {
        Check.says(17, "for each PLACE from the lesser of both to the greater one");
        for (int distance = 1; distance <= 15; distance++) {
            RowDrawer x = new RowDrawer();
            Check.sayAll(x, 1, 16);
            x.mark(0, 0, distance, 0, true);
            x.mark(0, 15, 15 - distance, 1, true);
            due("as far as " + distance, x.learn(0), distance + 1);
            spec(x, distance, 0, distance + 1, 2);
            due("one behind " + distance, x.learnt(distance + 1, 0), -1);
            due("turned round, as far as " + distance, x.learn(1), distance + 1);
            spec(x, 0, 0, 16 - distance, 2);
            spec(x, distance, 0, 16, 1);
        }
        RowDrawer y = new RowDrawer();
        Check.sayAll(y, 1, 16);
        y.mark(0, 0, 15, 0, true);
        y.mark(0, 15, 0, 1, true);
        y.mark(0, 14, 15, 2, true);
        due("16 specs", y.learn(0), 16);
        spec(y, 0, 0, 1, 1);
        spec(y, 15, 0, 16, 2);
        due("no 17th", y.learnt(16, 0), -1);
        due("16 specs, turned round", y.learn(1), 16);
        spec(y, 0, 0, 1, 2);
        spec(y, 15, 0, 16, 1);
        due("two specs behind sixteen", y.learn(2), 2);
        spec(y, 0, 0, 15, 1);
        spec(y, 1, 0, 16, 2);
        due("no third any more", y.learnt(2, 0), -1);
    }

    private static void learnFromThoseLikeTheFirst() {
        Check.says(17, "those that are like the first of them told (as far from left to right, and the same way round");
        RowDrawer x = new RowDrawer();
        Check.say(x, 1, 2, 3, 4);
        Check.say(x, 5, 6, 3, 4);
        x.mark(1, 0, 1, 0, false);
        x.mark(0, 1, 0, 0, true);
        x.mark(0, 2, 3, 0, true);
        x.mark(0, 3, 1, 0, true);
        x.mark(0, 2, 1, 1, true);
        due("two specs", x.learn(0), 2);
        spec(x, 0, 0, 1, 2);
        spec(x, 1, 0, 2, 1);
        x.mark(1, 1, 0, 0, false);
        due("a wrong one is none of them", x.learn(0), 2);
        spec(x, 0, 0, 1, 2);
        x.mark(1, 1, 0, 0, true);
        due("one that is like it", x.learn(0), 2);
        spec(x, 0, 1, 0, 2);
        spec(x, 1, 1, 0, 1);
        x.mark(1, 0, 1, 0, true);
        due("it is the first told", x.learn(0), 2);
        spec(x, 0, 1, 0, 1);
        spec(x, 1, 1, 0, 2);
    }

    private static void learnFromSentencesThere() {
        Check.says(17, "their SENTENCES there");
        RowDrawer x = new RowDrawer();
        Check.say(x, 1, 2);
        Check.say(x, 3, 2);
        x.sort(3, 1);
        x.mark(0, 0, 1, 0, true);
        x.mark(1, 0, 1, 0, true);
        x.learn(0);
        spec(x, 0, 2, 0, 1);
        x.take(1);
        due("the second taken away", x.learn(0), 2);
        spec(x, 0, 0, 1, 1);
        x.take(0);
        due("both taken away", x.learn(0), -1);
    }

    private static void learnWordThenSortThenAny() {
        Check.says(17, "word, if all have that WORD there, else sort, if all have that, else any");
        RowDrawer x = new RowDrawer();
        int[][] told = {{1, 5, 9}, {1, 6, 10}, {1, 5, 11}, {1, 6, 9}};
        x.sort(11, 9);
        for (int s = 0; s < told.length; s++) {
            Check.say(x, told[s]);
            x.mark(s, 0, 2, 0, true);
            x.learn(0);
            spec(x, 0, 0, 1, 1);
            spec(x, 1, s == 0 ? 0 : 1, s == 0 ? 5 : 0, 0);
            spec(x, 2, s == 0 ? 0 : s == 1 ? 1 : 2, s == 0 ? 9 : 0, 2);
        }
        x.join(6, 5);
        x.learn(0);
        spec(x, 1, 1, 0, 0);
    }

    private static void learnFromSixtyMarks() {
        Check.says(17, "LEARNT from the right MARKS of R");
        RowDrawer x = new RowDrawer();
        x.sort(2, 9);
        int n = 0;
        for (int s = 0; s < 4; s++) {
            for (int place = 0; place < 16; place++) {
                x.word(s == 3 && place == 15 ? 2 : 1);
            }
            x.sentence();
            for (int left = 0; left < 15; left++) {
                n++;
                due("mark " + n, x.mark(s, left, left + 1, 0, true), n);
                if (n == 59) {
                    due("59", x.learn(0), 2);
                    spec(x, 1, 0, 1, 2);
                    due("59 caught", x.catches(true), 59);
                }
            }
        }
        due("the 60th is not caught", x.catches(true), 59);
        due("60", x.learn(0), 2);
        spec(x, 0, 0, 1, 1);
        spec(x, 1, 2, 0, 2);
        due("60 caught", x.catches(true), 60);
    }

    private static void learnInVainKeepsTheLatest() {
        Check.says(18, "what was LEARNT latest");
        RowDrawer x = new RowDrawer();
        Check.say(x, 1, 2, 3);
        x.mark(0, 0, 2, 0, true);
        x.mark(0, 0, 1, 1, true);
        x.learn(0);
        int[] vain = {2, -1, 10, 9};
        for (int r : vain) {
            due("in vain " + r, x.learn(r), -1);
            spec(x, 2, 0, 3, 2);
            due("it catches still", x.catches(true), 1);
        }
        due("another", x.learn(1), 2);
        due("it is the latest", x.learnt(2, 0), -1);
        spec(x, 1, 0, 2, 2);
    }

    private static void learntNoSuchSpec() {
        Check.says(18, "NONE: none such");
        RowDrawer x = new RowDrawer();
        int[] noSpecs = {-1, 2, 3, 16, Check.LEAST, Check.GREATEST};
        int[] noWhats = {-1, 3, 4, Check.LEAST, Check.GREATEST};
        for (int what = 0; what < 3; what++) {
            due("nothing was learnt, what " + what, x.learnt(0, what), -1);
        }
        Check.say(x, 1, 2);
        x.mark(0, 0, 1, 0, true);
        due("it was not learnt yet", x.learnt(0, 0), -1);
        x.learn(0);
        for (int i : noSpecs) {
            for (int what = 0; what < 3; what++) {
                due("spec " + i + " " + what, x.learnt(i, what), -1);
            }
        }
        for (int what : noWhats) {
            due("what " + what, x.learnt(0, what), -1);
            due("what " + what + " of no spec", x.learnt(2, what), -1);
        }
        spec(x, 0, 0, 1, 1);
        spec(x, 1, 0, 2, 2);
    }

    private static void learntNumbersAtTheirEdges() {
        Check.says(18, "what 0: 0 word, 1 sort, 2 any, 1: the number (0 of any)");
        RowDrawer x = new RowDrawer();
        x.sort(5, 9);
        x.sort(6, 9);
        Check.say(x, 1, 5, 3, 5, 100);
        Check.say(x, 1, 6, 4, 7, 100);
        x.mark(0, 0, 4, 9, true);
        x.mark(1, 0, 4, 9, true);
        due("five specs", x.learn(9), 5);
        spec(x, 0, 0, 1, 1);
        spec(x, 1, 1, 9, 0);
        spec(x, 2, 1, 0, 0);
        spec(x, 3, 2, 0, 0);
        spec(x, 4, 0, 100, 2);
        x.sort(6, 8);
        spec(x, 1, 1, 9, 0);
    }

    private static void learntLeftAndRight() {
        Check.says(18, "2: 1 left, 2 right, else 0");
        RowDrawer x = new RowDrawer();
        Check.say(x, 1, 2, 3, 4);
        x.mark(0, 0, 1, 0, true);
        x.mark(0, 1, 0, 1, true);
        x.mark(0, 0, 3, 2, true);
        x.mark(0, 3, 0, 3, true);
        int[][] want = {{1, 2}, {2, 1}, {1, 0, 0, 2}, {2, 0, 0, 1}};
        for (int r = 0; r < 4; r++) {
            due("specs of R " + r, x.learn(r), want[r].length);
            for (int i = 0; i < want[r].length; i++) {
                spec(x, i, 0, i + 1, want[r][i]);
            }
        }
    }

    private static void catchesWithoutALesson() {
        Check.says(19, "NONE: nothing was");
        RowDrawer x = new RowDrawer();
        due("right", x.catches(true), -1);
        due("wrong", x.catches(false), -1);
        Check.say(x, 1, 2);
        x.mark(0, 0, 1, 0, true);
        x.learn(1);
        due("in vain, right", x.catches(true), -1);
        due("in vain, wrong", x.catches(false), -1);
        x.learn(0);
        due("learnt, right", x.catches(true), 1);
        due("learnt, wrong", x.catches(false), 0);
    }

    private static void catchesOfItsROnly() {
        Check.says(19, "How many right (yes) or wrong MARKS of its R");
        RowDrawer x = new RowDrawer();
        Check.say(x, 1, 2);
        Check.say(x, 1, 2);
        x.mark(0, 0, 1, 0, true);
        x.mark(0, 0, 1, 9, true);
        x.mark(1, 0, 1, 9, false);
        x.learn(0);
        due("right ones of 0", x.catches(true), 1);
        due("wrong ones of 0", x.catches(false), 0);
        x.learn(9);
        due("right ones of 9", x.catches(true), 1);
        due("wrong ones of 9", x.catches(false), 1);
    }

    private static void catchesNow() {
        Check.says(19, "what was LEARNT latest CATCHES now");
        RowDrawer x = new RowDrawer();
        Check.say(x, 1, 2);
        Check.say(x, 3, 2);
        Check.say(x, 4, 2);
        x.sort(4, 5);
        x.mark(0, 0, 1, 0, true);
        x.mark(1, 0, 1, 0, true);
        x.learn(0);
        due("both", x.catches(true), 2);
        x.mark(2, 0, 1, 0, true);
        due("not one of another sort", x.catches(true), 2);
        x.sort(4, 0);
        due("now it is of that sort", x.catches(true), 3);
        x.mark(2, 0, 1, 0, false);
        due("now it is wrong", x.catches(true) * 10 + x.catches(false), 21);
        x.sort(1, 9);
        due("now the first is of another sort", x.catches(true) * 10 + x.catches(false), 11);
        x.take(1);
        due("now the second is away", x.catches(true) * 10 + x.catches(false), 1);
        x.take(2);
        due("now all are away", x.catches(true) * 10 + x.catches(false), 0);
    }

    private static void catchesTheSameWayRoundOnly() {
        Check.says(19, "It CATCHES a MARK of R if its SPECS stand so there.");
        RowDrawer x = new RowDrawer();
        Check.say(x, 1, 1, 1, 1);
        x.mark(0, 0, 1, 0, true);
        x.learn(0);
        x.mark(0, 1, 0, 0, true);
        due("turned round", x.catches(true), 1);
        x.mark(0, 0, 2, 0, true);
        due("farther", x.catches(true), 1);
        x.mark(0, 2, 3, 0, true);
        due("at the last places", x.catches(true), 2);
        x.mark(0, 1, 2, 0, false);
        due("a wrong one", x.catches(false), 1);
    }
}
