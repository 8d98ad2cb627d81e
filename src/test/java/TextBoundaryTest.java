/** Boundary cases of the tape and of texts: promises 7 and 8. */
public final class TextBoundaryTest {
    private static final String PAIR = "rule 0:left any right any;";
    private static final String TEN_ITEMS = "rule 0:left any any any any any any any any any right any";
    private static final int NONE_OR_MISPLACED = 1;
    private static final int NOT_AS_TOLD = 4;
    private static final int TOO_MANY = 5;

    private TextBoundaryTest() {
    }

    private static void due(String what, long got, long want) {
        Check.due(what, got, want);
    }

    /** A text on a new object: its fault, and the empty tape behind it. */
    private static void fault(String text, int kind, int place) {
        RowDrawer x = new RowDrawer();
        due("text '" + text + "'", Check.read(x, text), kind + 16 * place);
        due("tape behind '" + text + "'", x.count(6), 0);
    }

    private static void good(String text) {
        fault(text, 0, 0);
    }

    public static void main(String[] args) {
        upToTwentyFour();
        highestFirst();
        everyByte();
        everyPosition();
        leftOutOnesLeaveNoGap();
        tapeIsFull();
        fullInTheMidstOfAFeed();
        beyondIsLost();
        emptyText();
        anyNumberOfStatements();
        tapeIsTaken();
        blanksBetween();
        noBlanksBetween();
        letteredOnes();
        letteredOnesAsLongAsCanBe();
        numbersOfOneToFourDigits();
        numbersTooLong();
        letterBehindNumber();
        allElseIsNone();
        rangeOfR();
        rangeOfWord();
        rangeOfSort();
        oneLeftOneRight();
        secondLeftOrRight();
        semicolonOfARuleThatLacks();
        ruleWithoutItems();
        leftAndRightTakeASpec();
        tooManyRules();
        tooManyItems();
        tooManyBars();
        tooManyChains();
        anyNumberOfSingles();
        faultAtTheEnd();
        faultAtTheFarEnd();
        endInEveryStatement();
        firstWrongTokenCounts();
        leastKindCounts();
        wordsOutOfPlaceAreNotTooMany();
        everyTokenInEveryPlace();
        everySignAToken();
        goodTextTakesThePlace();
        emptyTextTakesThePlace();
        singlesOfAnotherTextAreGone();
        faultyTextLeavesTheOther();
        limitsCountAnewForEachText();
        Check.end();
    }

    private static void upToTwentyFour() {
        Check.says(7, "Up to 24 signs come behind the TAPE");
        RowDrawer x = new RowDrawer();
        long eight = Check.pack("aaaaaaaa", 0);
        due("none", x.feed(0, 0, 0), 0);
        due("one", x.feed(0, 0x20, 0), 1);
        due("24 behind it", x.feed(eight, eight, eight), 25);
        due("none again", x.feed(0, 0, 0), 25);
        due("8 of a", x.feed(eight, 0, 0), 33);
        due("8 of b", x.feed(0, eight, 0), 41);
        due("8 of c", x.feed(0, 0, eight), 49);
        due("count", x.count(6), 49);
    }

    private static void highestFirst() {
        Check.says(7, "the bytes of a, b, c, of each the highest first");
        RowDrawer x = new RowDrawer();
        due("24 signs", x.feed(Check.pack("bar 1;ba", 0), Check.pack("r 22;bar", 0), Check.pack(" 100;   ", 0)), 24);
        due("they read so", x.text(), 0);
        due("three bars", x.count(3), 3);
    }

    private static void everyByte() {
        Check.says(7, "others than 10 and 32 .. 126, and what is beyond 1,200, are left out");
        RowDrawer x = new RowDrawer();
        int there = 0;
        for (int sign = 0; sign < 256; sign++) {
            there += sign == 10 || sign >= 32 && sign <= 126 ? 1 : 0;
            due("byte " + sign, x.feed(0, 0, sign), there);
        }
        due("96 in all", x.count(6), 96);
    }

    private static void everyPosition() {
        Check.says(7, "others than 10 and 32 .. 126");
        int[] taken = {10, 32, 126};
        int[] leftOut = {0, 9, 11, 13, 31, 127, 128, 138, 160, 254, 255};
        RowDrawer x = new RowDrawer();
        int there = 0;
        for (int shift = 0; shift < 64; shift += 8) {
            for (int sign : taken) {
                there += 3;
                long eight = (long) sign << shift;
                due(sign + " at " + shift, x.feed(eight, eight, eight), there);
            }
            for (int sign : leftOut) {
                long eight = (long) sign << shift;
                due(sign + " at " + shift, x.feed(eight, eight, eight), there);
            }
        }
        due("all bits set", x.feed(-1L, -1L, -1L), there);
        due("least and greatest", x.feed(Long.MIN_VALUE, Long.MAX_VALUE, Long.MIN_VALUE), there);
    }

    private static void leftOutOnesLeaveNoGap() {
        Check.says(7, "are left out");
        RowDrawer x = new RowDrawer();
        due("b, a, r with others between", x.feed(0x62000061007200ffL, 0, 0), 3);
        due("the blank and the rest", x.feed(0xff80207f31001f3bL, 0, 0), 6);
        due("they read as one", x.text(), 0);
        due("a bar", x.count(3), 1);
    }

    private static void fill(RowDrawer x, int signs) {
        for (int there = 0; there < signs; there += 24) {
            Check.feed(x, " ".repeat(Math.min(24, signs - there)));
        }
    }

    private static void tapeIsFull() {
        Check.says(7, "what is beyond 1,200, are left out: how many there are");
        RowDrawer x = new RowDrawer();
        fill(x, 1199);
        due("1,199", x.count(6), 1199);
        due("one that is left out", x.feed(0, 0, 127), 1199);
        due("the 1,200th", x.feed(0, 0, ';'), 1200);
        due("one more", x.feed(0, 0, ';'), 1200);
        due("24 more", Check.feed(x, "bar 1;bar 2;bar 3;bar 4;"), 1200);
        due("none more", x.feed(0, 0, 0), 1200);
        due("count", x.count(6), 1200);
        due("the 1,200th is there", x.text(), 1 + 16 * 1199);
    }

    private static void fullInTheMidstOfAFeed() {
        Check.says(7, "what is beyond 1,200, are left out");
        for (int room = 0; room <= 24; room++) {
            RowDrawer x = new RowDrawer();
            fill(x, 1200 - room);
            due("room for " + room, Check.feed(x, "@".repeat(24)), 1200);
            due("the first of them, room " + room, x.text(), room == 0 ? 0 : 1 + 16 * (1200 - room));
        }
        RowDrawer y = new RowDrawer();
        fill(y, 1194);
        due("the first ones of a feed are kept", Check.feed(y, "bar 7;bar 8;"), 1200);
        due("they read", y.text(), 0);
        due("one bar", y.count(3), 1);
    }

    private static void beyondIsLost() {
        Check.says(7, "what is beyond 1,200, are left out");
        RowDrawer x = new RowDrawer();
        fill(x, 1200);
        Check.feed(x, "bar 1;");
        due("blanks alone", x.text(), 0);
        due("no bar", x.count(3), 0);
        due("nothing comes later", x.count(6), 0);
        due("and nothing is read", x.text(), 0);
        due("still no bar", x.count(3), 0);
        due("room again", Check.read(x, "bar 2;"), 0);
        due("a bar", x.count(3), 1);
    }

    private static void emptyText() {
        Check.says(8, "TEXT: any number of");
        good("");
        good(" ");
        good("\n");
        good(" \n \n  ");
        good(" ".repeat(1200));
        good("\n".repeat(1199));
    }

    private static void anyNumberOfStatements() {
        Check.says(8, "TEXT: any number of");
        RowDrawer x = new RowDrawer();
        due("one of each", Check.read(x, PAIR + "bar 1;chain 1=0 0;single 2;"), 0);
        due("one rule, bar, chain", x.count(2) * 100 + x.count(3) * 10 + x.count(4), 111);
        due("in whatever order", Check.read(x, "single 2;chain 1=0 0;bar 1;" + PAIR + "bar 2;" + PAIR), 0);
        due("two rules, two bars, a chain", x.count(2) * 100 + x.count(3) * 10 + x.count(4), 221);
        due("the tape full of them", Check.read(x, "single 0;".repeat(133) + "   "), 0);
        due("the last one ends at the tape's end", Check.read(x, " ".repeat(1194) + "bar 1;"), 0);
        due("it counts", x.count(3), 1);
    }

    private static void tapeIsTaken() {
        Check.says(8, "what reads it takes it: it is empty then");
        RowDrawer x = new RowDrawer();
        due("a good text", Check.read(x, "bar 1;"), 0);
        due("empty", x.count(6), 0);
        due("a faulty one", Check.read(x, "bar 0;bar 2;"), 4 + 16 * 4);
        due("empty behind a fault, too", x.count(6), 0);
        due("what stood behind the fault is gone", Check.read(x, "bar 3;"), 0);
        due("one bar", x.count(3), 1);
        due("a fault at its first sign", Check.read(x, "%bar 2;"), 1);
        due("empty then, too", x.count(6), 0);
        due("nothing to take", x.text(), 0);
        due("still empty", x.count(6), 0);
    }

    private static void blanksBetween() {
        Check.says(8, "blanks (10, 32) between where one likes");
        good(" rule 0 : left word 1 right sort 2 some any ; bar 1 ; chain 0 = 1 2 ; single 3 ; ");
        good("\nrule\n0\n:\nleft\nword\n1\nright\nsort\n2\nsome\nany\n;\nbar\n1\n;\nchain\n0\n=\n1\n2\n;\nsingle\n3\n;\n");
        good("rule \n  0 \n\n :  left    any \n right\n\n\nany  ;");
        fault("ru le 0:left any right any;", NONE_OR_MISPLACED, 0);
        fault("bar 1 0;", NONE_OR_MISPLACED, 6);
    }

    private static void noBlanksBetween() {
        Check.says(8, "blanks (10, 32) between where one likes");
        good("rule0:left word1right sort2some any;bar1;chain0=1 2;single3;");
        good("bar100;chain9=9 9;single9;");
        fault("rule0:leftany right any;", NONE_OR_MISPLACED, 6);
        fault("chain0=12;", NOT_AS_TOLD, 7);
        fault("bar1bar2;", NONE_OR_MISPLACED, 4);
        fault("bar1;;", NONE_OR_MISPLACED, 5);
    }

    private static void letteredOnes() {
        Check.says(8, "LETTERED ones (a .. z, 1 to 8)");
        fault("a", NONE_OR_MISPLACED, 0);
        fault("z", NONE_OR_MISPLACED, 0);
        fault(" abcdefgh", NONE_OR_MISPLACED, 1);
        fault(" abcdefghi", NONE_OR_MISPLACED, 1);
        fault("  rulerule 0:", NONE_OR_MISPLACED, 2);
        fault("  rulerulerule 0:", NONE_OR_MISPLACED, 2);
        fault("bar abcdefghijklmnopqrstuvwxyz", NONE_OR_MISPLACED, 4);
        fault("BAR 1;", NONE_OR_MISPLACED, 0);
        fault("baR 1;", NONE_OR_MISPLACED, 0);
        fault("bar" + "r".repeat(1197), NONE_OR_MISPLACED, 0);
        fault("rule 0:" + "a".repeat(1193), NONE_OR_MISPLACED, 7);
    }

    private static void letteredOnesAsLongAsCanBe() {
        Check.says(8, "TOKENS, each as long as can be");
        String[] heads = {"rule", "bar", "chain", "single"};
        for (String head : heads) {
            fault(head + "a 1;", NONE_OR_MISPLACED, 0);
            fault(head + "z 1;", NONE_OR_MISPLACED, 0);
            fault("a" + head + " 1;", NONE_OR_MISPLACED, 0);
            fault(head.substring(0, head.length() - 1) + " 1;", NONE_OR_MISPLACED, 0);
            fault(head.substring(1) + " 1;", NONE_OR_MISPLACED, 0);
        }
        String[] words = {"left", "right", "some", "any", "word", "sort"};
        for (String word : words) {
            fault("rule 0:" + word + "a any 1;", NONE_OR_MISPLACED, 7);
            fault("rule 0:" + word + "z any 1;", NONE_OR_MISPLACED, 7);
            fault("rule 0:z" + word + " any 1;", NONE_OR_MISPLACED, 7);
            fault("rule 0:" + word.substring(0, word.length() - 1) + " 1;", NONE_OR_MISPLACED, 7);
            fault("rule 0:" + word.substring(1) + " 1;", NONE_OR_MISPLACED, 7);
        }
    }

    private static void numbersOfOneToFourDigits() {
        Check.says(8, "NUMBERS (1 to 4 digits");
        String[] ones = {"1", "01", "001", "0001"};
        for (String one : ones) {
            good("bar " + one + ";");
            good("rule " + one + ":left word " + one + " right sort " + one + ";");
            good("chain " + one + "=" + one + " " + one + ";single " + one + ";");
        }
        good("single 0000;");
        good("bar 0100;");
        fault("bar 0000;", NOT_AS_TOLD, 4);
        fault("bar 9999;", NOT_AS_TOLD, 4);
        fault("bar 1000;", NOT_AS_TOLD, 4);
        fault("single 0010;", NOT_AS_TOLD, 7);
    }

    private static void numbersTooLong() {
        Check.says(8, "All else (a longer one, too, at its first sign) is none.");
        fault("bar 00001;", NONE_OR_MISPLACED, 4);
        fault("bar 10000;", NONE_OR_MISPLACED, 4);
        fault("bar 99999;", NONE_OR_MISPLACED, 4);
        fault("bar 4294967297;", NONE_OR_MISPLACED, 4);
        fault("bar 18446744073709551617;", NONE_OR_MISPLACED, 4);
        fault("rule 00000:", NONE_OR_MISPLACED, 5);
        fault("rule 0:left sort 00000;", NONE_OR_MISPLACED, 17);
        fault("chain 0=0 00000;", NONE_OR_MISPLACED, 10);
        fault("00001", NONE_OR_MISPLACED, 0);
        fault("bar " + "1".repeat(1196), NONE_OR_MISPLACED, 4);
        fault("bar 1" + "0".repeat(4), NONE_OR_MISPLACED, 4);
    }

    private static void letterBehindNumber() {
        Check.says(8, "a letter may stand right behind");
        good("rule 0:left word 1right word 100some sort 0any;");
        good("rule 0:right sort 9left word 0001;");
        fault("bar 1a;", NONE_OR_MISPLACED, 5);
        fault("bar 1z;", NONE_OR_MISPLACED, 5);
        fault("bar 0001a;", NONE_OR_MISPLACED, 8);
        fault("bar 00001a;", NONE_OR_MISPLACED, 4);
        fault("bar 101a;", NOT_AS_TOLD, 4);
        fault("rule 0:word 1left1", NONE_OR_MISPLACED, 17);
    }

    private static void allElseIsNone() {
        Check.says(8, "All else (a longer one, too, at its first sign) is none.");
        for (int sign = 33; sign <= 126; sign++) {
            fault("  " + (char) sign, NONE_OR_MISPLACED, 2);
            if (sign < '0' || sign > '9') {
                fault("bar 1" + (char) sign, sign == ';' ? 0 : NONE_OR_MISPLACED, sign == ';' ? 0 : 5);
                fault("bar 1 " + (char) sign, sign == ';' ? 0 : NONE_OR_MISPLACED, sign == ';' ? 0 : 6);
            }
            if (sign < 'a' || sign > 'z') {
                boolean isDigit = sign >= '0' && sign <= '9';
                fault("rule 0:left any" + (char) sign, NONE_OR_MISPLACED, 15);
                fault("bar" + (char) sign, sign == '0' ? NOT_AS_TOLD : NONE_OR_MISPLACED, isDigit && sign != '0' ? 4 : 3);
            }
        }
    }

    /** A number at a place of a text: below and above its range not as told, within it good. */
    private static void range(String ahead, String behind, int least, int most) {
        int place = ahead.length();
        int[] outside = {least - 1, most + 1, 1000, 9999};
        for (int n : outside) {
            if (n >= 0) {
                fault(ahead + n + behind, NOT_AS_TOLD, place);
            }
        }
        good(ahead + least + behind);
        good(ahead + most + behind);
        fault(ahead + "-1" + behind, NONE_OR_MISPLACED, place);
        fault(ahead + "x" + behind, NONE_OR_MISPLACED, place);
    }

    private static void rangeOfR() {
        Check.says(8, "R is 0 to 9");
        range("rule ", ":left any right any;", 0, 9);
        range("chain ", "=0 0;", 0, 9);
        range("chain 0=", " 0;", 0, 9);
        range("chain 0=0 ", ";", 0, 9);
        range("single ", ";", 0, 9);
    }

    private static void rangeOfWord() {
        Check.says(8, "N of word, bar 1 to 100");
        range("bar ", ";", 1, 100);
        range("rule 0:word ", " left any right any;", 1, 100);
        range("rule 0:left word ", " right any;", 1, 100);
        range("rule 0:left any right word ", ";", 1, 100);
    }

    private static void rangeOfSort() {
        Check.says(8, "N of word, bar 1 to 100, of sort 0 to 9");
        range("rule 0:sort ", " left any right any;", 0, 9);
        range("rule 0:left sort ", " right any;", 0, 9);
        range("rule 0:left any right sort ", ";", 0, 9);
    }

    private static void oneLeftOneRight() {
        Check.says(8, "Of a rule's ITEMS one is left, one right.");
        good("rule 0:left any right any;");
        good("rule 0:right any left any;");
        good("rule 0:some right any some left any some;");
        good("rule 0:any any any any left any right any any any any any;");
    }

    private static void secondLeftOrRight() {
        Check.says(8, "a second left, right");
        fault("rule 0:left any left any;", NONE_OR_MISPLACED, 16);
        fault("rule 0:right any right any;", NONE_OR_MISPLACED, 17);
        fault("rule 0:left any right any left any;", NONE_OR_MISPLACED, 26);
        fault("rule 0:left any right any right any;", NONE_OR_MISPLACED, 26);
        fault("rule 0:right any some left any some left any;", NONE_OR_MISPLACED, 36);
        good("rule 0:left any right any;rule 0:left any right any;");
        fault("rule 0:left any right any;rule 0:right any right any;", NONE_OR_MISPLACED, 43);
    }

    private static void semicolonOfARuleThatLacks() {
        Check.says(8, "the semicolon of a rule that lacks one of both");
        fault("rule 0:left any;", NONE_OR_MISPLACED, 15);
        fault("rule 0:right any ;", NONE_OR_MISPLACED, 17);
        fault("rule 0:any;", NONE_OR_MISPLACED, 10);
        fault("rule 0:some;", NONE_OR_MISPLACED, 11);
        fault("rule 0:word 1 sort 2 some any;", NONE_OR_MISPLACED, 29);
        fault("rule 0:left any right any;rule 0:left any;", NONE_OR_MISPLACED, 41);
        fault("rule 0:left any right any;rule 0:right any;", NONE_OR_MISPLACED, 42);
    }

    private static void ruleWithoutItems() {
        Check.says(8, "rule R : ITEM { ITEM } ;");
        fault("rule 0:;", NONE_OR_MISPLACED, 7);
        fault("rule 0: ;", NONE_OR_MISPLACED, 8);
        fault("rule 0;", NONE_OR_MISPLACED, 6);
        fault("rule;", NONE_OR_MISPLACED, 4);
        fault("rule 0::left any right any;", NONE_OR_MISPLACED, 7);
        fault(PAIR + "rule 0:;", NONE_OR_MISPLACED, PAIR.length() + 7);
    }

    private static void leftAndRightTakeASpec() {
        Check.says(8, "ITEM: SPEC, some, left SPEC, right SPEC.");
        fault("rule 0:left some right any;", NONE_OR_MISPLACED, 12);
        fault("rule 0:left left any right any;", NONE_OR_MISPLACED, 12);
        fault("rule 0:left right any;", NONE_OR_MISPLACED, 12);
        fault("rule 0:right left any;", NONE_OR_MISPLACED, 13);
        fault("rule 0:left;", NONE_OR_MISPLACED, 11);
        fault("rule 0:left 1;", NONE_OR_MISPLACED, 12);
        fault("rule 0:any 1;", NONE_OR_MISPLACED, 11);
        fault("rule 0:some 1;", NONE_OR_MISPLACED, 12);
        fault("rule 0:word;", NONE_OR_MISPLACED, 11);
        fault("rule 0:sort any;", NONE_OR_MISPLACED, 12);
    }

    private static void tooManyRules() {
        Check.says(8, "At most 12 RULES");
        RowDrawer x = Check.withText(PAIR.repeat(12));
        due("12", x.count(2), 12);
        fault(PAIR.repeat(11) + PAIR, 0, 0);
        fault(PAIR.repeat(13), TOO_MANY, 12 * 26);
        fault(PAIR.repeat(12) + " rule", TOO_MANY, 12 * 26 + 1);
        fault(PAIR.repeat(12) + "rule 10:", TOO_MANY, 12 * 26);
        fault(PAIR.repeat(12) + "rules 10:", NONE_OR_MISPLACED, 12 * 26);
        fault(PAIR.repeat(12) + "bar 1;chain 0=0 0;single 0;rule 0:", TOO_MANY, 12 * 26 + 27);
        good(PAIR.repeat(12) + "bar 1;chain 0=0 0;single 0;");
    }

    private static void tooManyItems() {
        Check.says(8, "5 one too many: the words rule, bar, chain; an ITEM's first token");
        RowDrawer x = Check.withText(TEN_ITEMS + ";");
        due("10 items", x.rule(0, 4), 10);
        String[] eleventh = {"any", "some", "word 1", "sort 1", "word", "sort 10"};
        for (String item : eleventh) {
            fault(TEN_ITEMS + " " + item + ";", TOO_MANY, TEN_ITEMS.length() + 1);
        }
        String ahead = "rule 0:any any any any any any any any any left any";
        fault(ahead + " right any;", TOO_MANY, ahead.length() + 1);
        fault(ahead + " right;", TOO_MANY, ahead.length() + 1);
        fault(ahead.replace("left", "right") + " left 5;", TOO_MANY, ahead.length() + 2);
        fault("rule 0:" + "some ".repeat(11), TOO_MANY, 57);
        fault("rule 0:" + "some ".repeat(10) + ";", NONE_OR_MISPLACED, 57);
        due("the items count anew for each rule", Check.read(x, (TEN_ITEMS + ";").repeat(12)), 0);
        due("10 items of the last", x.rule(11, 4), 10);
    }

    private static void tooManyBars() {
        Check.says(8, "10 bars");
        RowDrawer x = Check.withText("bar 1;".repeat(10));
        due("10", x.count(3), 10);
        fault("bar 1;".repeat(11), TOO_MANY, 60);
        fault("bar 1;".repeat(10) + "bar", TOO_MANY, 60);
        fault("bar 1;".repeat(10) + "bar 0", TOO_MANY, 60);
        fault("bar 1;".repeat(10) + PAIR + "bar 1;", TOO_MANY, 60 + 26);
        fault("bar 1;".repeat(9) + "bar 101;", NOT_AS_TOLD, 58);
        good("bar 1;".repeat(10) + PAIR + "chain 0=0 0;single 0;");
    }

    private static void tooManyChains() {
        Check.says(8, "6 chains");
        RowDrawer x = Check.withText("chain 0=0 0;".repeat(6));
        due("6", x.count(4), 6);
        fault("chain 0=0 0;".repeat(7), TOO_MANY, 72);
        fault("chain 0=0 0;".repeat(6) + "chain", TOO_MANY, 72);
        fault("chain 0=0 0;".repeat(6) + "bar 1; chain 10", TOO_MANY, 79);
        fault("chain 0=0 0;".repeat(5) + "chain 0=0 10;", NOT_AS_TOLD, 70);
        good("chain 0=0 0;".repeat(6) + PAIR + "bar 1;single 0;");
    }

    private static void anyNumberOfSingles() {
        Check.says(8, "At most 12 RULES, 10 ITEMS of one, 10 bars, 6 chains.");
        good("single 0;".repeat(133));
        good("single 0;single 1;single 2;single 3;single 4;single 5;single 6;single 7;single 8;single 9;single 0;");
    }

    private static void faultAtTheEnd() {
        Check.says(8, "the end being one at the text's length");
        fault("rule", NONE_OR_MISPLACED, 4);
        fault("rule ", NONE_OR_MISPLACED, 5);
        fault("rule \n ", NONE_OR_MISPLACED, 7);
        fault("bar 1", NONE_OR_MISPLACED, 5);
        fault("bar 1;bar 1   ", NONE_OR_MISPLACED, 14);
        fault("rule 0:left any right any", NONE_OR_MISPLACED, 25);
        fault(TEN_ITEMS, NONE_OR_MISPLACED, TEN_ITEMS.length());
    }

    private static void faultAtTheFarEnd() {
        Check.says(8, "FAULTS, kind + 16 * the place (from 0) of a token, the end being one at the text's length");
        fault("bar 1" + " ".repeat(1195), NONE_OR_MISPLACED, 1200);
        fault(" ".repeat(1195) + "bar 1", NONE_OR_MISPLACED, 1200);
        fault(" ".repeat(1199) + "x", NONE_OR_MISPLACED, 1199);
        fault(" ".repeat(1195) + "bar 0", NOT_AS_TOLD, 1199);
        fault("bar 1;".repeat(10) + " ".repeat(1137) + "bar", TOO_MANY, 1197);
        fault(" ".repeat(1196) + "rule 0:", NONE_OR_MISPLACED, 1200);
    }

    private static void endInEveryStatement() {
        Check.says(8, "the end being one at the text's length");
        String whole = "rule 0:left word 1 some right sort 2 any;bar 7;chain 1=2 3;single 4;";
        for (int length = 0; length < whole.length(); length++) {
            boolean atBorder = length == 0 || whole.charAt(length - 1) == ';';
            boolean inWord = length > 0 && Character.isLetter(whole.charAt(length - 1))
                && Character.isLetter(whole.charAt(length));
            if (!inWord) {
                fault(whole.substring(0, length), atBorder ? 0 : NONE_OR_MISPLACED, atBorder ? 0 : length);
            }
        }
        good(whole);
    }

    private static void firstWrongTokenCounts() {
        Check.says(8, "of the first token from the left that is wrong");
        fault("bar 0;bar x;", NOT_AS_TOLD, 4);
        fault("bar x;bar 0;", NONE_OR_MISPLACED, 4);
        fault("bar 1;bar 101;%", NOT_AS_TOLD, 10);
        fault("rule 10:left any;", NOT_AS_TOLD, 5);
        fault("rule 0:left word 0;", NOT_AS_TOLD, 17);
        fault("bar 1;".repeat(10) + "bar 0;", TOO_MANY, 60);
        fault("rule 0 left word 0", NONE_OR_MISPLACED, 7);
        fault("chain 10 10", NOT_AS_TOLD, 6);
        fault("single 99 99", NOT_AS_TOLD, 7);
        fault("rule 0:left any right any left word 101;", NONE_OR_MISPLACED, 26);
    }

    private static void leastKindCounts() {
        Check.says(8, "of the first token from the left that is wrong the least");
        int behind = TEN_ITEMS.length() + 1;
        fault(TEN_ITEMS + " left any;", NONE_OR_MISPLACED, behind);
        fault(TEN_ITEMS + " right any;", NONE_OR_MISPLACED, behind);
        fault(TEN_ITEMS + " rule", NONE_OR_MISPLACED, behind);
        fault(TEN_ITEMS + " anyone", NONE_OR_MISPLACED, behind);
        fault(TEN_ITEMS + " 5", NONE_OR_MISPLACED, behind);
        fault(TEN_ITEMS + " 99999", NONE_OR_MISPLACED, behind);
        fault(TEN_ITEMS + " :", NONE_OR_MISPLACED, behind);
        String leftOnly = "rule 0:left any any any any any any any any any any";
        fault(leftOnly + ";", NONE_OR_MISPLACED, leftOnly.length());
        fault(leftOnly + " left any;", NONE_OR_MISPLACED, leftOnly.length() + 1);
        fault(leftOnly + " right any;", TOO_MANY, leftOnly.length() + 1);
    }

    private static void wordsOutOfPlaceAreNotTooMany() {
        Check.says(8, "1 it is none, or can't stand there");
        String full = PAIR.repeat(12) + "bar 1;".repeat(10) + "chain 0=0 0;".repeat(6);
        int length = full.length();
        good(full);
        fault(full + "rule", TOO_MANY, length);
        fault(full + "bar", TOO_MANY, length);
        fault(full + "chain", TOO_MANY, length);
        String[] heads = {"rule", "bar", "chain"};
        for (String head : heads) {
            fault(full + "single " + head, NONE_OR_MISPLACED, length + 7);
            fault(full + "single 0 " + head, NONE_OR_MISPLACED, length + 9);
        }
        fault(full + "left", NONE_OR_MISPLACED, length);
        fault(full + "any", NONE_OR_MISPLACED, length);
    }

    /** Each token in turn in the stead of each one of a good text. */
    private static void everyTokenInEveryPlace() {
        Check.says(8, "1 it is none, or can't stand there");
        String[] whole = {"rule", "0", ":", "word", "7", "left", "sort", "1", "right", "any", ";", "bar", "5", ";",
            "chain", "1", "=", "2", "3", ";", "single", "4", ";"};
        String[] others = {"rule", "bar", "chain", "single", "left", "right", "some", "word", "sort", "any", ":", "=",
            ";", "8", "other", "<"};
        for (int at = 0; at < whole.length; at++) {
            for (String other : others) {
                String[] tokens = whole.clone();
                tokens[at] = other;
                RowDrawer x = new RowDrawer();
                Oracle oracle = new Oracle();
                String text = String.join(" ", tokens);
                for (int i = 0; i < text.length(); i += 24) {
                    oracle.feed(Check.pack(text, i), Check.pack(text, i + 8), Check.pack(text, i + 16));
                }
                due("text '" + text + "'", Check.read(x, text), oracle.text());
            }
        }
    }

    private static void everySignAToken() {
        Check.says(8, "TOKENS, each as long as can be, blanks (10, 32) between where one likes");
        String[] signs = {";", ":", "=", "%", "a1", "1a"};
        for (String sign : signs) {
            fault(sign.repeat(1200 / sign.length()), NONE_OR_MISPLACED, 0);
        }
        fault("bar 1;" + ";".repeat(1194), NONE_OR_MISPLACED, 6);
    }

    private static RowDrawer told() {
        RowDrawer x = Check.withText("rule 0:left any right any;bar 9;chain 1=0 0;single 0;");
        Check.say(x, 1, 2, 3);
        Check.say(x, 1, 3);
        Check.say(x, 9, 1);
        return x;
    }

    /** What the text of told() makes of its sentences. */
    private static void dueAsTold(RowDrawer x) {
        due("rules, bars, chains", x.count(2) * 100 + x.count(3) * 10 + x.count(4), 111);
        due("R of the rule", x.rule(0, 0), 0);
        due("its items", x.rule(0, 4), 2);
        due("finds", x.finds(), 4);
        due("barred ones", x.count(8), 1);
        due("rows of 0", x.rows(0), 3);
        due("rows of 1", x.rows(1), 1);
        due("quarrel of 0", x.quarrel(0, 0), 1);
    }

    private static void goodTextTakesThePlace() {
        Check.says(8, "A text without a FAULT takes the place of the one there was.");
        RowDrawer x = told();
        dueAsTold(x);
        due("another", Check.read(x, "rule 2:left any some right any some some;single 2;"), 0);
        due("rules, bars, chains", x.count(2) * 100 + x.count(3) * 10 + x.count(4), 100);
        due("R of the rule", x.rule(0, 0), 2);
        due("its items", x.rule(0, 4), 5);
        due("finds", x.finds(), 5);
        due("barred ones", x.count(8), 0);
        due("rows of 0", x.rows(0), 0);
        due("rows of 1", x.rows(1), 0);
        due("rows of 2", x.rows(2), 4);
        due("0 is single no more", x.quarrel(0, 0), -1);
        due("quarrel of 2", x.quarrel(2, 0), 1);
    }

    private static void emptyTextTakesThePlace() {
        Check.says(8, "A text without a FAULT takes the place of the one there was.");
        RowDrawer x = told();
        due("an empty one", x.text(), 0);
        due("rules, bars, chains", x.count(2) * 100 + x.count(3) * 10 + x.count(4), 0);
        due("finds", x.finds(), 0);
        due("rows of 0", x.rows(0), 0);
        due("0 is single no more", x.quarrel(0, 0), -1);
        Check.dueNoSuchRule(x, 0, 0);
        due("best", x.best(60), 0);
        due("sentences stay", x.count(1), 3);
    }

    private static void singlesOfAnotherTextAreGone() {
        Check.says(8, "A text without a FAULT takes the place of the one there was.");
        RowDrawer x = told();
        due("it is single", x.quarrel(0, 0), 1);
        due("a good one without it", Check.read(x, PAIR), 0);
        due("its rows are there", x.rows(0), 4);
        due("it is single no more", x.quarrel(0, 0), -1);
        due("a faulty one with it", Check.read(x, PAIR + "single 0;single"), 1 + 16 * 41);
        due("it is not single", x.quarrel(0, 0), -1);
        due("a good one without it, behind the faulty one", Check.read(x, PAIR), 0);
        due("it is not single still", x.quarrel(0, 0), -1);
        due("a good one with it", Check.read(x, PAIR + "single 0;"), 0);
        due("it is single again", x.quarrel(0, 0), 1);
    }

    private static void faultyTextLeavesTheOther() {
        Check.says(8, "A text without a FAULT takes the place of the one there was.");
        String[] faulty = {"%", "rule 3:left any some right any;bar 1;bar 2;bar 3;chain 2=1 1;single 5;x",
            "bar 0;", "rule 3:left word 1 right any;rule 3:", "single 1;single 10;", PAIR.repeat(13)};
        for (String text : faulty) {
            RowDrawer x = told();
            due("'" + text + "' is faulty", Check.read(x, text) != 0 ? 1 : 0, 1);
            dueAsTold(x);
            due("no other single", x.quarrel(1, 0), -1);
        }
    }

    private static void limitsCountAnewForEachText() {
        Check.says(8, "At most 12 RULES, 10 ITEMS of one, 10 bars, 6 chains.");
        RowDrawer x = new RowDrawer();
        String full = PAIR.repeat(12) + "bar 1;".repeat(10) + "chain 0=0 0;".repeat(6);
        for (int n = 0; n < 4; n++) {
            due("a full one", Check.read(x, full), 0);
            due("12 rules", x.count(2), 12);
            due("10 bars", x.count(3), 10);
            due("6 chains", x.count(4), 6);
            due("one that is too full", Check.read(x, full + "bar 1;"), TOO_MANY + 16 * full.length());
        }
    }
}
